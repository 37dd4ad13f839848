def b12_back_50 (N : Nat) : Nat → Int32 → Int32 → Mz → Option (Int32 × Mz)
  | 0, _, _, _ => none
  | n + 1, x1, x2, μ => if 129 ≤ x2 then some (ga 7 μ (10 : Int32).toNatClampNeg, μ) else lt ((129 * x1) + x2) (fun v8 => ck (inb v8 516) (lt (ga 17 μ v8.toNatClampNeg) (fun v10 => ck (inb x2 129) (lt (sa 7 (upd (ga 7 μ) x2.toNatClampNeg v10) μ) (fun μ12 => lt (x2 + 1) (fun v13 => b12_back_50 N n x1 v13 μ12))))))
set_option maxHeartbeats 4000000 in
set_option maxRecDepth 100000 in
theorem t12_back_50 {p : Program} {l : Launch} {e : Env} {s : State} {m : MethodId} {args : Array Value} {below : List Frame} {meth : Method} {c : Code} {D : va_G} {θ : Th} {A : Nat → Prop} (K : KM p s m args c c12_back 3 y12_back (some .int) D θ A) (hr : meth.sig.returnType = (some .int)) (hlk : meth.locks = false) (N : Nat) (ρ : Int32 × Mz) : ∀ (n : Nat) (x1 : Int32) (x2 : Int32) (μ : Mz), b12_back_50 N n x1 x2 μ = some ρ → JM p l e s m args below meth c D θ A 2 3 (QMi below args s D θ A ρ) μ [(0, .ref θ.1), (1, .int x1), (2, .int x2)] [] 50 := by
  intro n
  induction n with
  | zero =>
    intro x1 x2 μ h
    exact absurd h (by simp [b12_back_50])
  | succ n ih =>
    intro x1 x2 μ h
    rw [b12_back_50] at h
    refine j_iload_n K 2 d12_back_50 rfl rfl ?_
    refine j_sipush (v := 129) K d12_back_51 (by decide) ?_
    refine j_icmp_ge (tgt := 81) K d12_back_54 (by decide) (fun q => ?_) (fun q => ?_)
    · have h := if_t h q
      refine j_aload_n K 0 d12_back_81 rfl rfl ?_
      refine mg_said K d12_back_82 ?_
      refine j_bipush (v := 10) K d12_back_85 (by decide) ?_
      refine ml_said K (inb_e (by decide)) d12_back_87 ?_
      exact mret_i K h hr hlk d12_back_88
    · have h := if_f h q
      refine j_aload_n K 0 d12_back_57 rfl rfl ?_
      refine mg_said K d12_back_58 ?_
      refine j_iload_n K 2 d12_back_61 rfl rfl ?_
      refine j_aload_n K 0 d12_back_62 rfl rfl ?_
      refine mg_images K d12_back_63 ?_
      refine j_sipush (v := 129) K d12_back_66 (by decide) ?_
      refine j_iload_n K 1 d12_back_69 rfl rfl ?_
      refine j_imul K d12_back_70 ?_
      refine j_iload_n K 2 d12_back_71 rfl rfl ?_
      refine j_iadd K d12_back_72 ?_
      obtain ⟨v8, e8, h⟩ := lt_e h
      refine j_eqi e8 ?_
      obtain ⟨q9, h⟩ := ck_e h
      refine ml_images K (inb_e q9) d12_back_73 ?_
      obtain ⟨v10, e10, h⟩ := lt_e h
      refine j_eqi e10 ?_
      obtain ⟨q11, h⟩ := ck_e h
      obtain ⟨μ12, e12, h⟩ := lt_e h
      refine ms_said K (inb_e q11) d12_back_74 e12 ?_
      obtain ⟨v13, e13, h⟩ := lt_e h
      refine j_iinc (k := 2) (v := v13) (lv' := [(2, .int v13), (0, .ref θ.1), (1, .int x1)]) K d12_back_75 rfl (by rw [e13]; rfl) (by decide) rfl ?_
      refine j_goto (tgt := 50) K d12_back_78 (by decide) ?_
      refine j_sub [1, 2, 0] rfl ?_
      exact ih x1 v13 μ12 h
def p12_back (N : Nat) (a1 : Int32) (μ : Mz) : Option (Int32 × Mz) := bo (p12_in N (a1.toInt64) 0 3) (fun r1 => if r1 = 0 then some ((-1), μ) else ck (inb a1 4) (if (ga 20 μ a1.toNatClampNeg) = 0 then some ((-1), μ) else ck (inb a1 4) (lt (si 11 (ga 18 μ a1.toNatClampNeg) μ) (fun μ4 => ck (inb a1 4) (lt (si 12 (ga 19 μ4 a1.toNatClampNeg) μ4) (fun μ6 => lt (si 16 0 μ6) (fun μ7 => b12_back_50 N N a1 0 μ7)))))))
set_option maxHeartbeats 4000000 in
set_option maxRecDepth 100000 in
theorem c12_back_ok (l : Launch) (D : va_G) (θ : Th) (N : Nat) (a1 : Int32) (μ : Mz) (ρ : Int32 × Mz) (h : p12_back N a1 μ = some ρ) : CMi l D θ y12_back c12_back 3 (some .int) 2 [.int a1] μ ρ := by
  intro sz
  refine j_met l [.ref θ.1, .int a1] (by decide +kernel) (Nat.le_of_ble_eq_true rfl) ?_
  intro p e s m args below meth c K hr hlk hnm hs
  generalize va_A (wM θ μ) sz = A at K ⊢
  have K : KM p s m args c c12_back 3 y12_back (some .int) D θ A := K
  show JM p l e s m args below meth c D θ A 2 3 (QMi below args s D θ A ρ) μ [(0, .ref θ.1), (1, .int a1)] [] 0
  unfold p12_back at h
  refine j_iload_n K 1 d12_back_0 rfl rfl ?_
  refine j_i2l K d12_back_1 ?_
  refine j_lconst (v := 0) K d12_back_2 (by decide) ?_
  refine j_ldc2 (v := 3) K (List.mem_cons_of_mem _ mk12_370) d12_back_3 ?_
  obtain ⟨r1, e1, h⟩ := bo_e h
  refine mcalls_i K (c12_in_ok l D θ N (a1.toInt64) 0 3 _ e1) mG_in mh_in (by decide) (by decide) rfl (st := []) (Nat.le_of_ble_eq_true rfl) rfl d12_back_6 ?_
  refine j_if_eq (tgt := 21) K d12_back_9 (by decide) (fun q => ?_) (fun q => ?_)
  · have h := if_t h q
    refine j_iconst (v := (-1)) K d12_back_21 (by decide) ?_
    exact mret_i K h hr hlk d12_back_22
  · have h := if_f h q
    refine j_aload_n K 0 d12_back_12 rfl rfl ?_
    refine mg_isMade K d12_back_13 ?_
    refine j_iload_n K 1 d12_back_16 rfl rfl ?_
    obtain ⟨q2, h⟩ := ck_e h
    refine ml_isMade K (inb_e q2) d12_back_17 ?_
    refine j_if_ne (tgt := 23) K d12_back_18 (by decide) (fun q => ?_) (fun q => ?_)
    · have h := if_f h q
      refine j_aload_n K 0 d12_back_23 rfl rfl ?_
      refine j_aload_n K 0 d12_back_24 rfl rfl ?_
      refine mg_imageForce K d12_back_25 ?_
      refine j_iload_n K 1 d12_back_28 rfl rfl ?_
      obtain ⟨q3, h⟩ := ck_e h
      refine ml_imageForce K (inb_e q3) d12_back_29 ?_
      obtain ⟨μ4, e4, h⟩ := lt_e h
      refine mp_force K d12_back_30 e4 ?_
      refine j_aload_n K 0 d12_back_33 rfl rfl ?_
      refine j_aload_n K 0 d12_back_34 rfl rfl ?_
      refine mg_imageX K d12_back_35 ?_
      refine j_iload_n K 1 d12_back_38 rfl rfl ?_
      obtain ⟨q5, h⟩ := ck_e h
      refine ml_imageX K (inb_e q5) d12_back_39 ?_
      obtain ⟨μ6, e6, h⟩ := lt_e h
      refine mp_x K d12_back_40 e6 ?_
      refine j_aload_n K 0 d12_back_43 rfl rfl ?_
      refine j_iconst (v := 0) K d12_back_44 (by decide) ?_
      obtain ⟨μ7, e7, h⟩ := lt_e h
      refine mp_undone K d12_back_45 e7 ?_
      refine j_iconst (v := 0) K d12_back_48 (by decide) ?_
      refine j_istore_n (lv' := [(2, .int 0), (0, .ref θ.1), (1, .int a1)]) K d12_back_49 rfl (by decide) rfl ?_
      refine j_sub [1, 2, 0] rfl ?_
      exact t12_back_50 K hr hlk N ρ N a1 0 μ7 h
    · have h := if_t h q
      refine j_iconst (v := (-1)) K d12_back_21 (by decide) ?_
      exact mret_i K h hr hlk d12_back_22
def p12_takesWord (N : Nat) (a1 : Int64) (μ : Mz) : Option (Int32 × Mz) := bd (p12_isWord N a1 μ) (fun r1 μ1 => if r1 = 0 then some (0, μ1) else bo (p12_passWord N  μ1) (fun μ2 => some (1, μ2)))
set_option maxHeartbeats 4000000 in
set_option maxRecDepth 100000 in
theorem c12_takesWord_ok (l : Launch) (D : va_G) (θ : Th) (N : Nat) (a1 : Int64) (μ : Mz) (ρ : Int32 × Mz) (h : p12_takesWord N a1 μ = some ρ) : CMi l D θ y12_takesWord c12_takesWord 3 (some .boolean) 3 [.long a1] μ ρ := by
  intro sz
  refine j_met l [.ref θ.1, .long a1] (by decide +kernel) (Nat.le_of_ble_eq_true rfl) ?_
  intro p e s m args below meth c K hr hlk hnm hs
  generalize va_A (wM θ μ) sz = A at K ⊢
  have K : KM p s m args c c12_takesWord 3 y12_takesWord (some .boolean) D θ A := K
  show JM p l e s m args below meth c D θ A 3 3 (QMi below args s D θ A ρ) μ [(0, .ref θ.1), (1, .long a1)] [] 0
  unfold p12_takesWord at h
  refine j_aload_n K 0 d12_takesWord_0 rfl rfl ?_
  refine j_lload_n K 1 d12_takesWord_1 rfl rfl ?_
  obtain ⟨r1, μ1, e1, h⟩ := bd_e h
  refine mcall_i K (c12_isWord_ok l D θ N a1 μ _ e1) mG_isWord mh_isWord (by decide) (by decide) rfl (st := []) (Nat.le_of_ble_eq_true rfl) rfl d12_takesWord_2 ?_
  refine j_if_ne (tgt := 10) K d12_takesWord_5 (by decide) (fun q => ?_) (fun q => ?_)
  · have h := if_f h q
    refine j_aload_n K 0 d12_takesWord_10 rfl rfl ?_
    obtain ⟨μ2, e2, h⟩ := bo_e h
    refine mcall_v K (c12_passWord_ok l D θ N  μ1 _ e2) mG_passWord mh_passWord (by decide) (by decide) rfl (st := []) (Nat.le_of_ble_eq_true rfl) rfl d12_takesWord_11 ?_
    refine j_iconst (v := 1) K d12_takesWord_14 (by decide) ?_
    exact mret_z K h rfl hr hlk d12_takesWord_15
  · have h := if_t h q
    refine j_iconst (v := 0) K d12_takesWord_8 (by decide) ?_
    exact mret_z K h rfl hr hlk d12_takesWord_9
def p12_wordHere (N : Nat)  (μ : Mz) : Option (Int32 × Mz) := bd (p12_isWord N 119183001281906 μ) (fun r1 μ1 => if r1 = 0 then bd (p12_isWord N 7370100 μ1) (fun r2 μ2 => if r2 = 0 then bd (p12_isWord N 469852319348 μ2) (fun r3 μ3 => if r3 = 0 then bd (p12_isWord N 1870030194 μ3) (fun r4 μ4 => if r4 = 0 then bd (p12_isWord N 465726042981 μ4) (fun r5 μ5 => if r5 = 0 then bd (p12_isWord N 513021013607 μ5) (fun r6 μ6 => if r6 = 0 then bd (p12_isWord N 1885432164 μ6) (fun r7 μ7 => if r7 = 0 then bd (p12_isWord N 483006772069 μ7) (fun r8 μ8 => if r8 = 0 then bd (p12_isWord N 1870095716 μ8) (fun r9 μ9 => if r9 = 0 then bd (p12_isWord N 1718775661 μ9) (fun r10 μ10 => if r10 = 0 then bd (p12_isWord N 29807 μ10) (fun r11 μ11 => if r11 = 0 then bd (p12_isWord N 28539376735186798 μ11) (fun r12 μ12 => if r12 = 0 then some ((-1), μ12) else some (11, μ12)) else some (10, μ11)) else some (9, μ10)) else some (8, μ9)) else some (7, μ8)) else some (6, μ7)) else some (5, μ6)) else some (4, μ5)) else some (3, μ4)) else some (2, μ3)) else some (1, μ2)) else some (0, μ1))
set_option maxHeartbeats 4000000 in
set_option maxRecDepth 100000 in
theorem c12_wordHere_ok (l : Launch) (D : va_G) (θ : Th) (N : Nat)  (μ : Mz) (ρ : Int32 × Mz) (h : p12_wordHere N  μ = some ρ) : CMi l D θ y12_wordHere c12_wordHere 1 (some .int) 3 [] μ ρ := by
  intro sz
  refine j_met l [.ref θ.1] (by decide +kernel) (Nat.le_of_ble_eq_true rfl) ?_
  intro p e s m args below meth c K hr hlk hnm hs
  generalize va_A (wM θ μ) sz = A at K ⊢
  have K : KM p s m args c c12_wordHere 1 y12_wordHere (some .int) D θ A := K
  show JM p l e s m args below meth c D θ A 3 1 (QMi below args s D θ A ρ) μ [(0, .ref θ.1)] [] 0
  unfold p12_wordHere at h
  refine j_aload_n K 0 d12_wordHere_0 rfl rfl ?_
  refine j_ldc2 (v := 119183001281906) K (List.mem_cons_of_mem _ mk12_131) d12_wordHere_1 ?_
  obtain ⟨r1, μ1, e1, h⟩ := bd_e h
  refine mcall_i K (c12_isWord_ok l D θ N 119183001281906 μ _ e1) mG_isWord mh_isWord (by decide) (by decide) rfl (st := []) (Nat.le_of_ble_eq_true rfl) rfl d12_wordHere_4 ?_
  refine j_if_eq (tgt := 12) K d12_wordHere_7 (by decide) (fun q => ?_) (fun q => ?_)
  · have h := if_t h q
    refine j_aload_n K 0 d12_wordHere_12 rfl rfl ?_
    refine j_ldc2 (v := 7370100) K (List.mem_cons_of_mem _ mk12_133) d12_wordHere_13 ?_
    obtain ⟨r2, μ2, e2, h⟩ := bd_e h
    refine mcall_i K (c12_isWord_ok l D θ N 7370100 μ1 _ e2) mG_isWord mh_isWord (by decide) (by decide) rfl (st := []) (Nat.le_of_ble_eq_true rfl) rfl d12_wordHere_16 ?_
    refine j_if_eq (tgt := 24) K d12_wordHere_19 (by decide) (fun q => ?_) (fun q => ?_)
    · have h := if_t h q
      refine j_aload_n K 0 d12_wordHere_24 rfl rfl ?_
      refine j_ldc2 (v := 469852319348) K (List.mem_cons_of_mem _ mk12_135) d12_wordHere_25 ?_
      obtain ⟨r3, μ3, e3, h⟩ := bd_e h
      refine mcall_i K (c12_isWord_ok l D θ N 469852319348 μ2 _ e3) mG_isWord mh_isWord (by decide) (by decide) rfl (st := []) (Nat.le_of_ble_eq_true rfl) rfl d12_wordHere_28 ?_
      refine j_if_eq (tgt := 36) K d12_wordHere_31 (by decide) (fun q => ?_) (fun q => ?_)
      · have h := if_t h q
        refine j_aload_n K 0 d12_wordHere_36 rfl rfl ?_
        refine j_ldc2 (v := 1870030194) K (List.mem_cons_of_mem _ mk12_137) d12_wordHere_37 ?_
        obtain ⟨r4, μ4, e4, h⟩ := bd_e h
        refine mcall_i K (c12_isWord_ok l D θ N 1870030194 μ3 _ e4) mG_isWord mh_isWord (by decide) (by decide) rfl (st := []) (Nat.le_of_ble_eq_true rfl) rfl d12_wordHere_40 ?_
        refine j_if_eq (tgt := 48) K d12_wordHere_43 (by decide) (fun q => ?_) (fun q => ?_)
        · have h := if_t h q
          refine j_aload_n K 0 d12_wordHere_48 rfl rfl ?_
          refine j_ldc2 (v := 465726042981) K (List.mem_cons_of_mem _ mk12_139) d12_wordHere_49 ?_
          obtain ⟨r5, μ5, e5, h⟩ := bd_e h
          refine mcall_i K (c12_isWord_ok l D θ N 465726042981 μ4 _ e5) mG_isWord mh_isWord (by decide) (by decide) rfl (st := []) (Nat.le_of_ble_eq_true rfl) rfl d12_wordHere_52 ?_
          refine j_if_eq (tgt := 60) K d12_wordHere_55 (by decide) (fun q => ?_) (fun q => ?_)
          · have h := if_t h q
            refine j_aload_n K 0 d12_wordHere_60 rfl rfl ?_
            refine j_ldc2 (v := 513021013607) K (List.mem_cons_of_mem _ mk12_141) d12_wordHere_61 ?_
            obtain ⟨r6, μ6, e6, h⟩ := bd_e h
            refine mcall_i K (c12_isWord_ok l D θ N 513021013607 μ5 _ e6) mG_isWord mh_isWord (by decide) (by decide) rfl (st := []) (Nat.le_of_ble_eq_true rfl) rfl d12_wordHere_64 ?_
            refine j_if_eq (tgt := 72) K d12_wordHere_67 (by decide) (fun q => ?_) (fun q => ?_)
            · have h := if_t h q
              refine j_aload_n K 0 d12_wordHere_72 rfl rfl ?_
              refine j_ldc2 (v := 1885432164) K (List.mem_cons_of_mem _ mk12_143) d12_wordHere_73 ?_
              obtain ⟨r7, μ7, e7, h⟩ := bd_e h
              refine mcall_i K (c12_isWord_ok l D θ N 1885432164 μ6 _ e7) mG_isWord mh_isWord (by decide) (by decide) rfl (st := []) (Nat.le_of_ble_eq_true rfl) rfl d12_wordHere_76 ?_
              refine j_if_eq (tgt := 85) K d12_wordHere_79 (by decide) (fun q => ?_) (fun q => ?_)
              · have h := if_t h q
                refine j_aload_n K 0 d12_wordHere_85 rfl rfl ?_
                refine j_ldc2 (v := 483006772069) K (List.mem_cons_of_mem _ mk12_145) d12_wordHere_86 ?_
                obtain ⟨r8, μ8, e8, h⟩ := bd_e h
                refine mcall_i K (c12_isWord_ok l D θ N 483006772069 μ7 _ e8) mG_isWord mh_isWord (by decide) (by decide) rfl (st := []) (Nat.le_of_ble_eq_true rfl) rfl d12_wordHere_89 ?_
                refine j_if_eq (tgt := 98) K d12_wordHere_92 (by decide) (fun q => ?_) (fun q => ?_)
                · have h := if_t h q
                  refine j_aload_n K 0 d12_wordHere_98 rfl rfl ?_
                  refine j_ldc2 (v := 1870095716) K (List.mem_cons_of_mem _ mk12_147) d12_wordHere_99 ?_
                  obtain ⟨r9, μ9, e9, h⟩ := bd_e h
                  refine mcall_i K (c12_isWord_ok l D θ N 1870095716 μ8 _ e9) mG_isWord mh_isWord (by decide) (by decide) rfl (st := []) (Nat.le_of_ble_eq_true rfl) rfl d12_wordHere_102 ?_
                  refine j_if_eq (tgt := 111) K d12_wordHere_105 (by decide) (fun q => ?_) (fun q => ?_)
                  · have h := if_t h q
                    refine j_aload_n K 0 d12_wordHere_111 rfl rfl ?_
                    refine j_ldc2 (v := 1718775661) K (List.mem_cons_of_mem _ mk12_149) d12_wordHere_112 ?_
                    obtain ⟨r10, μ10, e10, h⟩ := bd_e h
                    refine mcall_i K (c12_isWord_ok l D θ N 1718775661 μ9 _ e10) mG_isWord mh_isWord (by decide) (by decide) rfl (st := []) (Nat.le_of_ble_eq_true rfl) rfl d12_wordHere_115 ?_
                    refine j_if_eq (tgt := 124) K d12_wordHere_118 (by decide) (fun q => ?_) (fun q => ?_)
                    · have h := if_t h q
                      refine j_aload_n K 0 d12_wordHere_124 rfl rfl ?_
                      refine j_ldc2 (v := 29807) K (List.mem_cons_of_mem _ mk12_151) d12_wordHere_125 ?_
                      obtain ⟨r11, μ11, e11, h⟩ := bd_e h
                      refine mcall_i K (c12_isWord_ok l D θ N 29807 μ10 _ e11) mG_isWord mh_isWord (by decide) (by decide) rfl (st := []) (Nat.le_of_ble_eq_true rfl) rfl d12_wordHere_128 ?_
                      refine j_if_eq (tgt := 139) K d12_wordHere_131 (by decide) (fun q => ?_) (fun q => ?_)
                      · have h := if_t h q
                        refine j_aload_n K 0 d12_wordHere_139 rfl rfl ?_
                        refine j_ldc2 (v := 28539376735186798) K (List.mem_cons_of_mem _ mk12_153) d12_wordHere_140 ?_
                        obtain ⟨r12, μ12, e12, h⟩ := bd_e h
                        refine mcall_i K (c12_isWord_ok l D θ N 28539376735186798 μ11 _ e12) mG_isWord mh_isWord (by decide) (by decide) rfl (st := []) (Nat.le_of_ble_eq_true rfl) rfl d12_wordHere_143 ?_
                        refine j_if_eq (tgt := 154) K d12_wordHere_146 (by decide) (fun q => ?_) (fun q => ?_)
                        · have h := if_t h q
                          refine j_iconst (v := (-1)) K d12_wordHere_154 (by decide) ?_
                          exact mret_i K h hr hlk d12_wordHere_155
                        · have h := if_f h q
                          refine j_bipush (v := 11) K d12_wordHere_149 (by decide) ?_
                          refine j_goto (tgt := 155) K d12_wordHere_151 (by decide) ?_
                          exact mret_i K h hr hlk d12_wordHere_155
                      · have h := if_f h q
                        refine j_bipush (v := 10) K d12_wordHere_134 (by decide) ?_
                        refine j_goto (tgt := 155) K d12_wordHere_136 (by decide) ?_
                        exact mret_i K h hr hlk d12_wordHere_155
                    · have h := if_f h q
                      refine j_bipush (v := 9) K d12_wordHere_121 (by decide) ?_
                      exact mret_i K h hr hlk d12_wordHere_123
                  · have h := if_f h q
                    refine j_bipush (v := 8) K d12_wordHere_108 (by decide) ?_
                    exact mret_i K h hr hlk d12_wordHere_110
                · have h := if_f h q
                  refine j_bipush (v := 7) K d12_wordHere_95 (by decide) ?_
                  exact mret_i K h hr hlk d12_wordHere_97
              · have h := if_f h q
                refine j_bipush (v := 6) K d12_wordHere_82 (by decide) ?_
                exact mret_i K h hr hlk d12_wordHere_84
            · have h := if_f h q
              refine j_iconst (v := 5) K d12_wordHere_70 (by decide) ?_
              exact mret_i K h hr hlk d12_wordHere_71
          · have h := if_f h q
            refine j_iconst (v := 4) K d12_wordHere_58 (by decide) ?_
            exact mret_i K h hr hlk d12_wordHere_59
        · have h := if_f h q
          refine j_iconst (v := 3) K d12_wordHere_46 (by decide) ?_
          exact mret_i K h hr hlk d12_wordHere_47
      · have h := if_f h q
        refine j_iconst (v := 2) K d12_wordHere_34 (by decide) ?_
        exact mret_i K h hr hlk d12_wordHere_35
    · have h := if_f h q
      refine j_iconst (v := 1) K d12_wordHere_22 (by decide) ?_
      exact mret_i K h hr hlk d12_wordHere_23
  · have h := if_f h q
    refine j_iconst (v := 0) K d12_wordHere_10 (by decide) ?_
    exact mret_i K h hr hlk d12_wordHere_11
def b12_closes_5 (N : Nat) : Nat → Mz → Option (Mz)
  | 0, _ => none
  | n + 1, μ => bd (p12_see N  μ) (fun r2 μ2 => if r2 = 93 then bd (p12_isInside N  μ2) (fun r3 μ3 => if r3 = 0 then some μ3 else bo (p12_layDown N 1 μ3) (fun μ4 => lt (si 9 ((gi 9 μ4) - 1) μ4) (fun μ5 => lt (si 7 ((gi 7 μ5) - 1) μ5) (fun μ6 => lt (si 2 ((gi 2 μ6) + 1) μ6) (fun μ7 => bo (p12_layDown N 3 μ7) (fun μ8 => b12_closes_5 N n  μ8)))))) else some μ2)
set_option maxHeartbeats 4000000 in
set_option maxRecDepth 100000 in
theorem t12_closes_5 {p : Program} {l : Launch} {e : Env} {s : State} {m : MethodId} {args : Array Value} {below : List Frame} {meth : Method} {c : Code} {D : va_G} {θ : Th} {A : Nat → Prop} (K : KM p s m args c c12_closes 1 y12_closes none D θ A) (hr : meth.sig.returnType = none) (hlk : meth.locks = false) (N : Nat) (ρ : Mz) : ∀ (n : Nat)  (μ : Mz), b12_closes_5 N n  μ = some ρ → JM p l e s m args below meth c D θ A 3 1 (QMv below args s D θ A ρ) μ [(0, .ref θ.1)] [] 5 := by
  intro n
  induction n with
  | zero =>
    intro μ h
    exact absurd h (by simp [b12_closes_5])
  | succ n ih =>
    intro μ h
    rw [b12_closes_5] at h
    refine j_aload_n K 0 d12_closes_5 rfl rfl ?_
    obtain ⟨r2, μ2, e2, h⟩ := bd_e h
    refine mcall_i K (c12_see_ok l D θ N  μ _ e2) mG_see mh_see (by decide) (by decide) rfl (st := []) (Nat.le_of_ble_eq_true rfl) rfl d12_closes_6 ?_
    refine j_bipush (v := 93) K d12_closes_9 (by decide) ?_
    refine j_icmp_ne (tgt := 64) K d12_closes_11 (by decide) (fun q => ?_) (fun q => ?_)
    · have h := if_f h q
      exact mret_v K h hr hlk d12_closes_64
    · have h := if_t h q
      refine j_aload_n K 0 d12_closes_14 rfl rfl ?_
      obtain ⟨r3, μ3, e3, h⟩ := bd_e h
      refine mcall_i K (c12_isInside_ok l D θ N  μ2 _ e3) mG_isInside mh_isInside (by decide) (by decide) rfl (st := []) (Nat.le_of_ble_eq_true rfl) rfl d12_closes_15 ?_
      refine j_if_eq (tgt := 64) K d12_closes_18 (by decide) (fun q => ?_) (fun q => ?_)
      · have h := if_t h q
        exact mret_v K h hr hlk d12_closes_64
      · have h := if_f h q
        refine j_aload_n K 0 d12_closes_21 rfl rfl ?_
        refine j_iconst (v := 1) K d12_closes_22 (by decide) ?_
        obtain ⟨μ4, e4, h⟩ := bo_e h
        refine mcall_v K (c12_layDown_ok l D θ N 1 μ3 _ e4) mG_layDown mh_layDown (by decide) (by decide) rfl (st := []) (Nat.le_of_ble_eq_true rfl) rfl d12_closes_23 ?_
        refine j_aload_n K 0 d12_closes_26 rfl rfl ?_
        refine j_dup K d12_closes_27 rfl ?_
        refine mg_opened K d12_closes_28 ?_
        refine j_iconst (v := 1) K d12_closes_31 (by decide) ?_
        refine j_isub K d12_closes_32 ?_
        obtain ⟨μ5, e5, h⟩ := lt_e h
        refine mp_opened K d12_closes_33 e5 ?_
        refine j_aload_n K 0 d12_closes_36 rfl rfl ?_
        refine j_dup K d12_closes_37 rfl ?_
        refine mg_deep K d12_closes_38 ?_
        refine j_iconst (v := 1) K d12_closes_41 (by decide) ?_
        refine j_isub K d12_closes_42 ?_
        obtain ⟨μ6, e6, h⟩ := lt_e h
        refine mp_deep K d12_closes_43 e6 ?_
        refine j_aload_n K 0 d12_closes_46 rfl rfl ?_
        refine j_dup K d12_closes_47 rfl ?_
        refine mg_next K d12_closes_48 ?_
        refine j_iconst (v := 1) K d12_closes_51 (by decide) ?_
        refine j_iadd K d12_closes_52 ?_
        obtain ⟨μ7, e7, h⟩ := lt_e h
        refine mp_next K d12_closes_53 e7 ?_
        refine j_aload_n K 0 d12_closes_56 rfl rfl ?_
        refine j_iconst (v := 3) K d12_closes_57 (by decide) ?_
        obtain ⟨μ8, e8, h⟩ := bo_e h
        refine mcall_v K (c12_layDown_ok l D θ N 3 μ7 _ e8) mG_layDown mh_layDown (by decide) (by decide) rfl (st := []) (Nat.le_of_ble_eq_true rfl) rfl d12_closes_58 ?_
        refine j_goto (tgt := 5) K d12_closes_61 (by decide) ?_
        exact ih  μ8 h
def p12_closes (N : Nat)  (μ : Mz) : Option (Mz) := bo (p12_layDown N 3 μ) (fun μ1 => b12_closes_5 N N μ1)
set_option maxHeartbeats 4000000 in
set_option maxRecDepth 100000 in
theorem c12_closes_ok (l : Launch) (D : va_G) (θ : Th) (N : Nat)  (μ : Mz) (ρ : Mz) (h : p12_closes N  μ = some ρ) : CMv l D θ y12_closes c12_closes 1 none 3 [] μ ρ := by
  intro sz
  refine j_met l [.ref θ.1] (by decide +kernel) (Nat.le_of_ble_eq_true rfl) ?_
  intro p e s m args below meth c K hr hlk hnm hs
  generalize va_A (wM θ μ) sz = A at K ⊢
  have K : KM p s m args c c12_closes 1 y12_closes none D θ A := K
  show JM p l e s m args below meth c D θ A 3 1 (QMv below args s D θ A ρ) μ [(0, .ref θ.1)] [] 0
  unfold p12_closes at h
  refine j_aload_n K 0 d12_closes_0 rfl rfl ?_
  refine j_iconst (v := 3) K d12_closes_1 (by decide) ?_
  obtain ⟨μ1, e1, h⟩ := bo_e h
  refine mcall_v K (c12_layDown_ok l D θ N 3 μ _ e1) mG_layDown mh_layDown (by decide) (by decide) rfl (st := []) (Nat.le_of_ble_eq_true rfl) rfl d12_closes_2 ?_
  exact t12_closes_5 K hr hlk N ρ N  μ1 h
def p12_cellHere (N : Nat) (a1 : Int32) (a2 : Int32) (a3 : Int32) (μ : Mz) : Option (Int32 × Mz) := bd (p12_numberHere N a2 a3 μ) (fun r1 μ1 => if r1 = 0 then some (0, μ1) else lt (gi 4 μ1) (fun v2 => ck (inb a1 98) (lt (sa 5 (upd (ga 5 μ1) a1.toNatClampNeg v2) μ1) (fun μ4 => some (1, μ4)))))
set_option maxHeartbeats 4000000 in
set_option maxRecDepth 100000 in
theorem c12_cellHere_ok (l : Launch) (D : va_G) (θ : Th) (N : Nat) (a1 : Int32) (a2 : Int32) (a3 : Int32) (μ : Mz) (ρ : Int32 × Mz) (h : p12_cellHere N a1 a2 a3 μ = some ρ) : CMi l D θ y12_cellHere c12_cellHere 4 (some .boolean) 3 [.int a1, .int a2, .int a3] μ ρ := by
  intro sz
  refine j_met l [.ref θ.1, .int a1, .int a2, .int a3] (by decide +kernel) (Nat.le_of_ble_eq_true rfl) ?_
  intro p e s m args below meth c K hr hlk hnm hs
  generalize va_A (wM θ μ) sz = A at K ⊢
  have K : KM p s m args c c12_cellHere 4 y12_cellHere (some .boolean) D θ A := K
  show JM p l e s m args below meth c D θ A 3 4 (QMi below args s D θ A ρ) μ [(0, .ref θ.1), (1, .int a1), (2, .int a2), (3, .int a3)] [] 0
  unfold p12_cellHere at h
  refine j_aload_n K 0 d12_cellHere_0 rfl rfl ?_
  refine j_iload_n K 2 d12_cellHere_1 rfl rfl ?_
  refine j_iload_n K 3 d12_cellHere_2 rfl rfl ?_
  obtain ⟨r1, μ1, e1, h⟩ := bd_e h
  refine mcall_i K (c12_numberHere_ok l D θ N a2 a3 μ _ e1) mG_numberHere mh_numberHere (by decide) (by decide) rfl (st := []) (Nat.le_of_ble_eq_true rfl) rfl d12_cellHere_3 ?_
  refine j_if_ne (tgt := 11) K d12_cellHere_6 (by decide) (fun q => ?_) (fun q => ?_)
  · have h := if_f h q
    refine j_aload_n K 0 d12_cellHere_11 rfl rfl ?_
    refine mg_read K d12_cellHere_12 ?_
    refine j_iload_n K 1 d12_cellHere_15 rfl rfl ?_
    refine j_aload_n K 0 d12_cellHere_16 rfl rfl ?_
    refine mg_number K d12_cellHere_17 ?_
    obtain ⟨v2, e2, h⟩ := lt_e h
    refine j_eqi e2 ?_
    obtain ⟨q3, h⟩ := ck_e h
    obtain ⟨μ4, e4, h⟩ := lt_e h
    refine ms_read K (inb_e q3) d12_cellHere_20 e4 ?_
    refine j_iconst (v := 1) K d12_cellHere_21 (by decide) ?_
    exact mret_z K h rfl hr hlk d12_cellHere_22
  · have h := if_t h q
    refine j_iconst (v := 0) K d12_cellHere_9 (by decide) ?_
    exact mret_z K h rfl hr hlk d12_cellHere_10
def p12_isHangsHere (N : Nat)  (μ : Mz) : Option (Int32 × Mz) := bo (p12_passWord N  μ) (fun μ1 => bd (p12_numberHere N 0 ((ga 5 μ1 (3 : Int32).toNatClampNeg) - 1) μ1) (fun r2 μ2 => if r2 = 0 then some (0, μ2) else lt (gi 4 μ2) (fun v3 => bd (p12_see N  μ2) (fun r4 μ4 => lt (gi 2 μ4) (fun v5 => bd (p12_numberHere N 0 ((ga 5 μ4 (3 : Int32).toNatClampNeg) - 1) μ4) (fun r6 μ6 => if r6 = 0 then some (0, μ6) else if v3 = (gi 4 μ6) then bd (p12_fails N 1 v5 μ6) (fun r12 μ12 => ck (b01 r12) (some (r12, μ12))) else lt (63 + v3) (fun v7 => ck (inb v7 98) (lt ((ga 5 μ6 v7.toNatClampNeg) ||| ((1 : Int32) <<< ((gi 4 μ6) &&& 31))) (fun v9 => ck (inb v7 98) (lt (sa 5 (upd (ga 5 μ6) v7.toNatClampNeg v9) μ6) (fun μ11 => some (1, μ11))))))))))))
set_option maxHeartbeats 4000000 in
set_option maxRecDepth 100000 in
theorem c12_isHangsHere_ok (l : Launch) (D : va_G) (θ : Th) (N : Nat)  (μ : Mz) (ρ : Int32 × Mz) (h : p12_isHangsHere N  μ = some ρ) : CMi l D θ y12_isHangsHere c12_isHangsHere 3 (some .boolean) 3 [] μ ρ := by
  intro sz
  refine j_met l [.ref θ.1] (by decide +kernel) (Nat.le_of_ble_eq_true rfl) ?_
  intro p e s m args below meth c K hr hlk hnm hs
  generalize va_A (wM θ μ) sz = A at K ⊢
  have K : KM p s m args c c12_isHangsHere 3 y12_isHangsHere (some .boolean) D θ A := K
  show JM p l e s m args below meth c D θ A 3 3 (QMi below args s D θ A ρ) μ [(0, .ref θ.1)] [] 0
  unfold p12_isHangsHere at h
  refine j_aload_n K 0 d12_isHangsHere_0 rfl rfl ?_
  obtain ⟨μ1, e1, h⟩ := bo_e h
  refine mcall_v K (c12_passWord_ok l D θ N  μ _ e1) mG_passWord mh_passWord (by decide) (by decide) rfl (st := []) (Nat.le_of_ble_eq_true rfl) rfl d12_isHangsHere_1 ?_
  refine j_aload_n K 0 d12_isHangsHere_4 rfl rfl ?_
  refine j_iconst (v := 0) K d12_isHangsHere_5 (by decide) ?_
  refine j_aload_n K 0 d12_isHangsHere_6 rfl rfl ?_
  refine mg_read K d12_isHangsHere_7 ?_
  refine j_iconst (v := 3) K d12_isHangsHere_10 (by decide) ?_
  refine ml_read K (inb_e (by decide)) d12_isHangsHere_11 ?_
  refine j_iconst (v := 1) K d12_isHangsHere_12 (by decide) ?_
  refine j_isub K d12_isHangsHere_13 ?_
  obtain ⟨r2, μ2, e2, h⟩ := bd_e h
  refine mcall_i K (c12_numberHere_ok l D θ N 0 ((ga 5 μ1 (3 : Int32).toNatClampNeg) - 1) μ1 _ e2) mG_numberHere mh_numberHere (by decide) (by decide) rfl (st := []) (Nat.le_of_ble_eq_true rfl) rfl d12_isHangsHere_14 ?_
  refine j_if_ne (tgt := 22) K d12_isHangsHere_17 (by decide) (fun q => ?_) (fun q => ?_)
  · have h := if_f h q
    refine j_aload_n K 0 d12_isHangsHere_22 rfl rfl ?_
    refine mg_number K d12_isHangsHere_23 ?_
    obtain ⟨v3, e3, h⟩ := lt_e h
    refine j_eqi e3 ?_
    refine j_istore_n (lv' := [(1, .int v3), (0, .ref θ.1)]) K d12_isHangsHere_26 rfl (by decide) rfl ?_
    refine j_aload_n K 1 d12_isHangsHere_27 rfl rfl ?_
    obtain ⟨r4, μ4, e4, h⟩ := bd_e h
    refine mcall_i K (c12_see_ok l D θ N  μ2 _ e4) mG_see mh_see (by decide) (by decide) rfl (st := []) (Nat.le_of_ble_eq_true rfl) rfl d12_isHangsHere_28 ?_
    refine j_pop K d12_isHangsHere_31 rfl ?_
    refine j_aload_n K 1 d12_isHangsHere_32 rfl rfl ?_
    refine mg_next K d12_isHangsHere_33 ?_
    obtain ⟨v5, e5, h⟩ := lt_e h
    refine j_eqi e5 ?_
    refine j_istore_n (lv' := [(2, .int v5), (1, .int v3), (0, .ref θ.1)]) K d12_isHangsHere_36 rfl (by decide) rfl ?_
    refine j_aload_n K 2 d12_isHangsHere_37 rfl rfl ?_
    refine j_iconst (v := 0) K d12_isHangsHere_38 (by decide) ?_
    refine j_aload_n K 2 d12_isHangsHere_39 rfl rfl ?_
    refine mg_read K d12_isHangsHere_40 ?_
    refine j_iconst (v := 3) K d12_isHangsHere_43 (by decide) ?_
    refine ml_read K (inb_e (by decide)) d12_isHangsHere_44 ?_
    refine j_iconst (v := 1) K d12_isHangsHere_45 (by decide) ?_
    refine j_isub K d12_isHangsHere_46 ?_
    obtain ⟨r6, μ6, e6, h⟩ := bd_e h
    refine mcall_i K (c12_numberHere_ok l D θ N 0 ((ga 5 μ4 (3 : Int32).toNatClampNeg) - 1) μ4 _ e6) mG_numberHere mh_numberHere (by decide) (by decide) rfl (st := []) (Nat.le_of_ble_eq_true rfl) rfl d12_isHangsHere_47 ?_
    refine j_if_ne (tgt := 55) K d12_isHangsHere_50 (by decide) (fun q => ?_) (fun q => ?_)
    · have h := if_f h q
      refine j_iload_n K 1 d12_isHangsHere_55 rfl rfl ?_
      refine j_aload_n K 2 d12_isHangsHere_56 rfl rfl ?_
      refine mg_number K d12_isHangsHere_57 ?_
      refine j_icmp_ne (tgt := 70) K d12_isHangsHere_60 (by decide) (fun q => ?_) (fun q => ?_)
      · have h := if_f h q
        refine j_aload_n K 2 d12_isHangsHere_70 rfl rfl ?_
        refine mg_read K d12_isHangsHere_71 ?_
        refine j_bipush (v := 63) K d12_isHangsHere_74 (by decide) ?_
        refine j_iload_n K 1 d12_isHangsHere_76 rfl rfl ?_
        refine j_iadd K d12_isHangsHere_77 ?_
        obtain ⟨v7, e7, h⟩ := lt_e h
        refine j_eqi e7 ?_
        refine j_dup2 K d12_isHangsHere_78 rfl rfl ?_
        obtain ⟨q8, h⟩ := ck_e h
        refine ml_read K (inb_e q8) d12_isHangsHere_79 ?_
        refine j_iconst (v := 1) K d12_isHangsHere_80 (by decide) ?_
        refine j_aload_n K 2 d12_isHangsHere_81 rfl rfl ?_
        refine mg_number K d12_isHangsHere_82 ?_
        refine j_ishl K d12_isHangsHere_85 ?_
        refine j_ior K d12_isHangsHere_86 ?_
        obtain ⟨v9, e9, h⟩ := lt_e h
        refine j_eqi e9 ?_
        obtain ⟨q10, h⟩ := ck_e h
        obtain ⟨μ11, e11, h⟩ := lt_e h
        refine ms_read K (inb_e q10) d12_isHangsHere_87 e11 ?_
        refine j_iconst (v := 1) K d12_isHangsHere_88 (by decide) ?_
        exact mret_z K h rfl hr hlk d12_isHangsHere_89
      · have h := if_t h q
        refine j_aload_n K 2 d12_isHangsHere_63 rfl rfl ?_
        refine j_iconst (v := 1) K d12_isHangsHere_64 (by decide) ?_
        refine j_iload_n K 0 d12_isHangsHere_65 rfl rfl ?_
        obtain ⟨r12, μ12, e12, h⟩ := bd_e h
        refine mcall_i K (c12_fails_ok l D θ N 1 v5 μ6 _ e12) mG_fails mh_fails (by decide) (by decide) rfl (st := []) (Nat.le_of_ble_eq_true rfl) rfl d12_isHangsHere_66 ?_
        obtain ⟨q13, h⟩ := ck_e h
        exact mret_z K h (b01_e q13) hr hlk d12_isHangsHere_69
    · have h := if_t h q
      refine j_iconst (v := 0) K d12_isHangsHere_53 (by decide) ?_
      exact mret_z K h rfl hr hlk d12_isHangsHere_54
  · have h := if_t h q
    refine j_iconst (v := 0) K d12_isHangsHere_20 (by decide) ?_
    exact mret_z K h rfl hr hlk d12_isHangsHere_21
def p12_isBookWord (N : Nat)  (μ : Mz) : Option (Int32 × Mz) := bd (p12_isWord N 1651470187 μ) (fun r1 μ1 => if r1 = 0 then bd (p12_isWord N 119183001281906 μ1) (fun r2 μ2 => if r2 = 0 then bd (p12_isWord N 448310438260 μ2) (fun r3 μ3 => if r3 = 0 then bd (p12_isWord N 448311224179 μ3) (fun r4 μ4 => if r4 = 0 then some (0, μ4) else some (1, μ4)) else some (1, μ3)) else some (1, μ2)) else some (1, μ1))
set_option maxHeartbeats 4000000 in
set_option maxRecDepth 100000 in
theorem c12_isBookWord_ok (l : Launch) (D : va_G) (θ : Th) (N : Nat)  (μ : Mz) (ρ : Int32 × Mz) (h : p12_isBookWord N  μ = some ρ) : CMi l D θ y12_isBookWord c12_isBookWord 1 (some .boolean) 3 [] μ ρ := by
  intro sz
  refine j_met l [.ref θ.1] (by decide +kernel) (Nat.le_of_ble_eq_true rfl) ?_
  intro p e s m args below meth c K hr hlk hnm hs
  generalize va_A (wM θ μ) sz = A at K ⊢
  have K : KM p s m args c c12_isBookWord 1 y12_isBookWord (some .boolean) D θ A := K
  show JM p l e s m args below meth c D θ A 3 1 (QMi below args s D θ A ρ) μ [(0, .ref θ.1)] [] 0
  unfold p12_isBookWord at h
  refine j_aload_n K 0 d12_isBookWord_0 rfl rfl ?_
  refine j_ldc2 (v := 1651470187) K (List.mem_cons_of_mem _ mk12_231) d12_isBookWord_1 ?_
  obtain ⟨r1, μ1, e1, h⟩ := bd_e h
  refine mcall_i K (c12_isWord_ok l D θ N 1651470187 μ _ e1) mG_isWord mh_isWord (by decide) (by decide) rfl (st := []) (Nat.le_of_ble_eq_true rfl) rfl d12_isBookWord_4 ?_
  refine j_if_ne (tgt := 40) K d12_isBookWord_7 (by decide) (fun q => ?_) (fun q => ?_)
  · have h := if_f h q
    refine j_iconst (v := 1) K d12_isBookWord_40 (by decide) ?_
    refine j_goto (tgt := 45) K d12_isBookWord_41 (by decide) ?_
    exact mret_z K h rfl hr hlk d12_isBookWord_45
  · have h := if_t h q
    refine j_aload_n K 0 d12_isBookWord_10 rfl rfl ?_
    refine j_ldc2 (v := 119183001281906) K (List.mem_cons_of_mem _ mk12_131) d12_isBookWord_11 ?_
    obtain ⟨r2, μ2, e2, h⟩ := bd_e h
    refine mcall_i K (c12_isWord_ok l D θ N 119183001281906 μ1 _ e2) mG_isWord mh_isWord (by decide) (by decide) rfl (st := []) (Nat.le_of_ble_eq_true rfl) rfl d12_isBookWord_14 ?_
    refine j_if_ne (tgt := 40) K d12_isBookWord_17 (by decide) (fun q => ?_) (fun q => ?_)
    · have h := if_f h q
      refine j_iconst (v := 1) K d12_isBookWord_40 (by decide) ?_
      refine j_goto (tgt := 45) K d12_isBookWord_41 (by decide) ?_
      exact mret_z K h rfl hr hlk d12_isBookWord_45
    · have h := if_t h q
      refine j_aload_n K 0 d12_isBookWord_20 rfl rfl ?_
      refine j_ldc2 (v := 448310438260) K (List.mem_cons_of_mem _ mk12_239) d12_isBookWord_21 ?_
      obtain ⟨r3, μ3, e3, h⟩ := bd_e h
      refine mcall_i K (c12_isWord_ok l D θ N 448310438260 μ2 _ e3) mG_isWord mh_isWord (by decide) (by decide) rfl (st := []) (Nat.le_of_ble_eq_true rfl) rfl d12_isBookWord_24 ?_
      refine j_if_ne (tgt := 40) K d12_isBookWord_27 (by decide) (fun q => ?_) (fun q => ?_)
      · have h := if_f h q
        refine j_iconst (v := 1) K d12_isBookWord_40 (by decide) ?_
        refine j_goto (tgt := 45) K d12_isBookWord_41 (by decide) ?_
        exact mret_z K h rfl hr hlk d12_isBookWord_45
      · have h := if_t h q
        refine j_aload_n K 0 d12_isBookWord_30 rfl rfl ?_
        refine j_ldc2 (v := 448311224179) K (List.mem_cons_of_mem _ mk12_247) d12_isBookWord_31 ?_
        obtain ⟨r4, μ4, e4, h⟩ := bd_e h
        refine mcall_i K (c12_isWord_ok l D θ N 448311224179 μ3 _ e4) mG_isWord mh_isWord (by decide) (by decide) rfl (st := []) (Nat.le_of_ble_eq_true rfl) rfl d12_isBookWord_34 ?_
        refine j_if_eq (tgt := 44) K d12_isBookWord_37 (by decide) (fun q => ?_) (fun q => ?_)
        · have h := if_t h q
          refine j_iconst (v := 0) K d12_isBookWord_44 (by decide) ?_
          exact mret_z K h rfl hr hlk d12_isBookWord_45
        · have h := if_f h q
          refine j_iconst (v := 1) K d12_isBookWord_40 (by decide) ?_
          refine j_goto (tgt := 45) K d12_isBookWord_41 (by decide) ?_
          exact mret_z K h rfl hr hlk d12_isBookWord_45
def p12_isLoose (N : Nat) (a1 : Int32) (μ : Mz) : Option (Int32 × Mz) := bd (p12_isInBook N a1 μ) (fun r1 μ1 => if r1 = 0 then some (0, μ1) else bd (p12_isWrong N a1 μ1) (fun r2 μ2 => if r2 = 0 then some (0, μ2) else lt (33 + a1) (fun v3 => ck (inb v3 129) (bd (p12_wrongOnes N  μ2) (fun r5 μ5 => if ((ga 7 μ2 v3.toNatClampNeg) &&& r5) = 0 then some (1, μ5) else some (0, μ5))))))
set_option maxHeartbeats 4000000 in
set_option maxRecDepth 100000 in
theorem c12_isLoose_ok (l : Launch) (D : va_G) (θ : Th) (N : Nat) (a1 : Int32) (μ : Mz) (ρ : Int32 × Mz) (h : p12_isLoose N a1 μ = some ρ) : CMi l D θ y12_isLoose c12_isLoose 2 (some .boolean) 3 [.int a1] μ ρ := by
  intro sz
  refine j_met l [.ref θ.1, .int a1] (by decide +kernel) (Nat.le_of_ble_eq_true rfl) ?_
  intro p e s m args below meth c K hr hlk hnm hs
  generalize va_A (wM θ μ) sz = A at K ⊢
  have K : KM p s m args c c12_isLoose 2 y12_isLoose (some .boolean) D θ A := K
  show JM p l e s m args below meth c D θ A 3 2 (QMi below args s D θ A ρ) μ [(0, .ref θ.1), (1, .int a1)] [] 0
  unfold p12_isLoose at h
  refine j_aload_n K 0 d12_isLoose_0 rfl rfl ?_
  refine j_iload_n K 1 d12_isLoose_1 rfl rfl ?_
  obtain ⟨r1, μ1, e1, h⟩ := bd_e h
  refine mcall_i K (c12_isInBook_ok l D θ N a1 μ _ e1) mG_isInBook mh_isInBook (by decide) (by decide) rfl (st := []) (Nat.le_of_ble_eq_true rfl) rfl d12_isLoose_2 ?_
  refine j_if_eq (tgt := 37) K d12_isLoose_5 (by decide) (fun q => ?_) (fun q => ?_)
  · have h := if_t h q
    refine j_iconst (v := 0) K d12_isLoose_37 (by decide) ?_
    exact mret_z K h rfl hr hlk d12_isLoose_38
  · have h := if_f h q
    refine j_aload_n K 0 d12_isLoose_8 rfl rfl ?_
    refine j_iload_n K 1 d12_isLoose_9 rfl rfl ?_
    obtain ⟨r2, μ2, e2, h⟩ := bd_e h
    refine mcall_i K (c12_isWrong_ok l D θ N a1 μ1 _ e2) mG_isWrong mh_isWrong (by decide) (by decide) rfl (st := []) (Nat.le_of_ble_eq_true rfl) rfl d12_isLoose_10 ?_
    refine j_if_eq (tgt := 37) K d12_isLoose_13 (by decide) (fun q => ?_) (fun q => ?_)
    · have h := if_t h q
      refine j_iconst (v := 0) K d12_isLoose_37 (by decide) ?_
      exact mret_z K h rfl hr hlk d12_isLoose_38
    · have h := if_f h q
      refine j_aload_n K 0 d12_isLoose_16 rfl rfl ?_
      refine mg_said K d12_isLoose_17 ?_
      refine j_bipush (v := 33) K d12_isLoose_20 (by decide) ?_
      refine j_iload_n K 1 d12_isLoose_22 rfl rfl ?_
      refine j_iadd K d12_isLoose_23 ?_
      obtain ⟨v3, e3, h⟩ := lt_e h
      refine j_eqi e3 ?_
      obtain ⟨q4, h⟩ := ck_e h
      refine ml_said K (inb_e q4) d12_isLoose_24 ?_
      refine j_aload_n K 0 d12_isLoose_25 rfl rfl ?_
      obtain ⟨r5, μ5, e5, h⟩ := bd_e h
      refine mcall_i K (c12_wrongOnes_ok l D θ N  μ2 _ e5) mG_wrongOnes mh_wrongOnes (by decide) (by decide) rfl (st := [.int (ga 7 μ2 v3.toNatClampNeg)]) (Nat.le_of_ble_eq_true rfl) rfl d12_isLoose_26 ?_
      refine j_iand K d12_isLoose_29 ?_
      refine j_if_ne (tgt := 37) K d12_isLoose_30 (by decide) (fun q => ?_) (fun q => ?_)
      · have h := if_f h q
        refine j_iconst (v := 0) K d12_isLoose_37 (by decide) ?_
        exact mret_z K h rfl hr hlk d12_isLoose_38
      · have h := if_t h q
        refine j_iconst (v := 1) K d12_isLoose_33 (by decide) ?_
        refine j_goto (tgt := 38) K d12_isLoose_34 (by decide) ?_
        exact mret_z K h rfl hr hlk d12_isLoose_38
def p12_fromOn (N : Nat) (a1 : Int32) (μ : Mz) : Option (Int32 × Mz) := bd (p12_rounds N  μ) (fun r1 μ1 => ck (nz r1) (lt (73 + (2 * (a1 - a1 / r1 * r1))) (fun v3 => ck (inb v3 129) (some (ga 7 μ1 v3.toNatClampNeg, μ1)))))
set_option maxHeartbeats 4000000 in
set_option maxRecDepth 100000 in
theorem c12_fromOn_ok (l : Launch) (D : va_G) (θ : Th) (N : Nat) (a1 : Int32) (μ : Mz) (ρ : Int32 × Mz) (h : p12_fromOn N a1 μ = some ρ) : CMi l D θ y12_fromOn c12_fromOn 2 (some .int) 3 [.int a1] μ ρ := by
  intro sz
  refine j_met l [.ref θ.1, .int a1] (by decide +kernel) (Nat.le_of_ble_eq_true rfl) ?_
  intro p e s m args below meth c K hr hlk hnm hs
  generalize va_A (wM θ μ) sz = A at K ⊢
  have K : KM p s m args c c12_fromOn 2 y12_fromOn (some .int) D θ A := K
  show JM p l e s m args below meth c D θ A 3 2 (QMi below args s D θ A ρ) μ [(0, .ref θ.1), (1, .int a1)] [] 0
  unfold p12_fromOn at h
  refine j_aload_n K 0 d12_fromOn_0 rfl rfl ?_
  refine mg_said K d12_fromOn_1 ?_
  refine j_bipush (v := 73) K d12_fromOn_4 (by decide) ?_
  refine j_iconst (v := 2) K d12_fromOn_6 (by decide) ?_
  refine j_iload_n K 1 d12_fromOn_7 rfl rfl ?_
  refine j_aload_n K 0 d12_fromOn_8 rfl rfl ?_
  obtain ⟨r1, μ1, e1, h⟩ := bd_e h
  refine mcall_i K (c12_rounds_ok l D θ N  μ _ e1) mG_rounds mh_rounds (by decide) (by decide) rfl (st := [.int a1, .int 2, .int 73, .ref (θ.2.1 9)]) (Nat.le_of_ble_eq_true rfl) rfl d12_fromOn_9 ?_
  obtain ⟨q2, h⟩ := ck_e h
  refine j_irem K d12_fromOn_12 (nz_e q2) ?_
  refine j_imul K d12_fromOn_13 ?_
  refine j_iadd K d12_fromOn_14 ?_
  obtain ⟨v3, e3, h⟩ := lt_e h
  refine j_eqi e3 ?_
  obtain ⟨q4, h⟩ := ck_e h
  refine ml_said K (inb_e q4) d12_fromOn_15 ?_
  exact mret_i K h hr hlk d12_fromOn_16
def p12_toOn (N : Nat) (a1 : Int32) (μ : Mz) : Option (Int32 × Mz) := bd (p12_rounds N  μ) (fun r1 μ1 => ck (nz r1) (lt ((73 + (2 * (a1 - a1 / r1 * r1))) + 1) (fun v3 => ck (inb v3 129) (some (ga 7 μ1 v3.toNatClampNeg, μ1)))))
set_option maxHeartbeats 4000000 in
set_option maxRecDepth 100000 in
theorem c12_toOn_ok (l : Launch) (D : va_G) (θ : Th) (N : Nat) (a1 : Int32) (μ : Mz) (ρ : Int32 × Mz) (h : p12_toOn N a1 μ = some ρ) : CMi l D θ y12_toOn c12_toOn 2 (some .int) 3 [.int a1] μ ρ := by
  intro sz
  refine j_met l [.ref θ.1, .int a1] (by decide +kernel) (Nat.le_of_ble_eq_true rfl) ?_
  intro p e s m args below meth c K hr hlk hnm hs
  generalize va_A (wM θ μ) sz = A at K ⊢
  have K : KM p s m args c c12_toOn 2 y12_toOn (some .int) D θ A := K
  show JM p l e s m args below meth c D θ A 3 2 (QMi below args s D θ A ρ) μ [(0, .ref θ.1), (1, .int a1)] [] 0
  unfold p12_toOn at h
  refine j_aload_n K 0 d12_toOn_0 rfl rfl ?_
  refine mg_said K d12_toOn_1 ?_
  refine j_bipush (v := 73) K d12_toOn_4 (by decide) ?_
  refine j_iconst (v := 2) K d12_toOn_6 (by decide) ?_
  refine j_iload_n K 1 d12_toOn_7 rfl rfl ?_
  refine j_aload_n K 0 d12_toOn_8 rfl rfl ?_
  obtain ⟨r1, μ1, e1, h⟩ := bd_e h
  refine mcall_i K (c12_rounds_ok l D θ N  μ _ e1) mG_rounds mh_rounds (by decide) (by decide) rfl (st := [.int a1, .int 2, .int 73, .ref (θ.2.1 9)]) (Nat.le_of_ble_eq_true rfl) rfl d12_toOn_9 ?_
  obtain ⟨q2, h⟩ := ck_e h
  refine j_irem K d12_toOn_12 (nz_e q2) ?_
  refine j_imul K d12_toOn_13 ?_
  refine j_iadd K d12_toOn_14 ?_
  refine j_iconst (v := 1) K d12_toOn_15 (by decide) ?_
  refine j_iadd K d12_toOn_16 ?_
  obtain ⟨v3, e3, h⟩ := lt_e h
  refine j_eqi e3 ?_
  obtain ⟨q4, h⟩ := ck_e h
  refine ml_said K (inb_e q4) d12_toOn_17 ?_
  exact mret_i K h hr hlk d12_toOn_18
def p12_habit (N : Nat) (a1 : Int32) (a2 : Int32) (μ : Mz) : Option (Int32 × Mz) := if a1 < 0 then some ((-1), μ) else bd (p12_rounds N  μ) (fun r1 μ1 => if r1 ≤ a1 then some ((-1), μ1) else bo (p12_in N (a2.toInt64) 0 1) (fun r2 => if r2 = 0 then some ((-1), μ1) else lt ((73 + (2 * a1)) + a2) (fun v3 => ck (inb v3 129) (some (ga 7 μ1 v3.toNatClampNeg, μ1)))))
set_option maxHeartbeats 4000000 in
set_option maxRecDepth 100000 in
theorem c12_habit_ok (l : Launch) (D : va_G) (θ : Th) (N : Nat) (a1 : Int32) (a2 : Int32) (μ : Mz) (ρ : Int32 × Mz) (h : p12_habit N a1 a2 μ = some ρ) : CMi l D θ y12_habit c12_habit 3 (some .int) 3 [.int a1, .int a2] μ ρ := by
  intro sz
  refine j_met l [.ref θ.1, .int a1, .int a2] (by decide +kernel) (Nat.le_of_ble_eq_true rfl) ?_
  intro p e s m args below meth c K hr hlk hnm hs
  generalize va_A (wM θ μ) sz = A at K ⊢
  have K : KM p s m args c c12_habit 3 y12_habit (some .int) D θ A := K
  show JM p l e s m args below meth c D θ A 3 3 (QMi below args s D θ A ρ) μ [(0, .ref θ.1), (1, .int a1), (2, .int a2)] [] 0
  unfold p12_habit at h
  refine j_iload_n K 1 d12_habit_0 rfl rfl ?_
  refine j_if_lt (tgt := 38) K d12_habit_1 (by decide) (fun q => ?_) (fun q => ?_)
  · have h := if_t h q
    refine j_iconst (v := (-1)) K d12_habit_38 (by decide) ?_
    exact mret_i K h hr hlk d12_habit_39
  · have h := if_f h q
    refine j_iload_n K 1 d12_habit_4 rfl rfl ?_
    refine j_aload_n K 0 d12_habit_5 rfl rfl ?_
    obtain ⟨r1, μ1, e1, h⟩ := bd_e h
    refine mcall_i K (c12_rounds_ok l D θ N  μ _ e1) mG_rounds mh_rounds (by decide) (by decide) rfl (st := [.int a1]) (Nat.le_of_ble_eq_true rfl) rfl d12_habit_6 ?_
    refine j_icmp_ge (tgt := 38) K d12_habit_9 (by decide) (fun q => ?_) (fun q => ?_)
    · have h := if_t h q
      refine j_iconst (v := (-1)) K d12_habit_38 (by decide) ?_
      exact mret_i K h hr hlk d12_habit_39
    · have h := if_f h q
      refine j_iload_n K 2 d12_habit_12 rfl rfl ?_
      refine j_i2l K d12_habit_13 ?_
      refine j_lconst (v := 0) K d12_habit_14 (by decide) ?_
      refine j_lconst (v := 1) K d12_habit_15 (by decide) ?_
      obtain ⟨r2, e2, h⟩ := bo_e h
      refine mcalls_i K (c12_in_ok l D θ N (a2.toInt64) 0 1 _ e2) mG_in mh_in (by decide) (by decide) rfl (st := []) (Nat.le_of_ble_eq_true rfl) rfl d12_habit_16 ?_
      refine j_if_eq (tgt := 38) K d12_habit_19 (by decide) (fun q => ?_) (fun q => ?_)
      · have h := if_t h q
        refine j_iconst (v := (-1)) K d12_habit_38 (by decide) ?_
        exact mret_i K h hr hlk d12_habit_39
      · have h := if_f h q
        refine j_aload_n K 0 d12_habit_22 rfl rfl ?_
        refine mg_said K d12_habit_23 ?_
        refine j_bipush (v := 73) K d12_habit_26 (by decide) ?_
        refine j_iconst (v := 2) K d12_habit_28 (by decide) ?_
        refine j_iload_n K 1 d12_habit_29 rfl rfl ?_
        refine j_imul K d12_habit_30 ?_
        refine j_iadd K d12_habit_31 ?_
        refine j_iload_n K 2 d12_habit_32 rfl rfl ?_
        refine j_iadd K d12_habit_33 ?_
        obtain ⟨v3, e3, h⟩ := lt_e h
        refine j_eqi e3 ?_
        obtain ⟨q4, h⟩ := ck_e h
        refine ml_said K (inb_e q4) d12_habit_34 ?_
        refine j_goto (tgt := 39) K d12_habit_35 (by decide) ?_
        exact mret_i K h hr hlk d12_habit_39
def b12_summedBy_58 (N : Nat) (x1 : Int32) (x3 : Int32) (μ : Mz) : Option (Int64 × Mz) := ck (inb x3 288) (lt (x3 + 1) (fun v6 => ck (inb v6 288) (bd (p12_reckons N x1 (ga 3 μ x3.toNatClampNeg) (ga 3 μ v6.toNatClampNeg) μ) (fun r8 μ8 => some (r8, μ8)))))
set_option maxHeartbeats 4000000 in
set_option maxRecDepth 100000 in
theorem t12_summedBy_58 {p : Program} {l : Launch} {e : Env} {s : State} {m : MethodId} {args : Array Value} {below : List Frame} {meth : Method} {c : Code} {D : va_G} {θ : Th} {A : Nat → Prop} (K : KM p s m args c c12_summedBy 4 y12_summedBy (some .long) D θ A) (hr : meth.sig.returnType = (some .long)) (hlk : meth.locks = false) (N : Nat) (ρ : Int64 × Mz) (x1 : Int32) (x3 : Int32) (μ : Mz) (h : b12_summedBy_58 N x1 x3 μ = some ρ) : JM p l e s m args below meth c D θ A 3 4 (QMl below args s D θ A ρ) μ [(0, .ref θ.1), (1, .int x1), (3, .int x3)] [] 58 := by
  unfold b12_summedBy_58 at h
  refine j_aload_n K 0 d12_summedBy_58 rfl rfl ?_
  refine j_iload_n K 1 d12_summedBy_59 rfl rfl ?_
  refine j_aload_n K 0 d12_summedBy_60 rfl rfl ?_
  refine mg_clause K d12_summedBy_61 ?_
  refine j_iload_n K 2 d12_summedBy_64 rfl rfl ?_
  obtain ⟨q5, h⟩ := ck_e h
  refine ml_clause K (inb_e q5) d12_summedBy_65 ?_
  refine j_aload_n K 0 d12_summedBy_66 rfl rfl ?_
  refine mg_clause K d12_summedBy_67 ?_
  refine j_iload_n K 2 d12_summedBy_70 rfl rfl ?_
  refine j_iconst (v := 1) K d12_summedBy_71 (by decide) ?_
  refine j_iadd K d12_summedBy_72 ?_
  obtain ⟨v6, e6, h⟩ := lt_e h
  refine j_eqi e6 ?_
  obtain ⟨q7, h⟩ := ck_e h
  refine ml_clause K (inb_e q7) d12_summedBy_73 ?_
  obtain ⟨r8, μ8, e8, h⟩ := bd_e h
  refine mcall_l K (c12_reckons_ok l D θ N x1 (ga 3 μ x3.toNatClampNeg) (ga 3 μ v6.toNatClampNeg) μ _ e8) mG_reckons mh_reckons (by decide) (by decide) rfl (st := []) (Nat.le_of_ble_eq_true rfl) rfl d12_summedBy_74 ?_
  exact mret_l K h hr hlk d12_summedBy_77
def b12_summedBy_2 (N : Nat) : Nat → Int32 → Int32 → Mz → Option (Int64 × Mz)
  | 0, _, _, _ => none
  | n + 1, x1, x2, μ => ck (inb x1 6) (if (ga 4 μ x1.toNatClampNeg) ≤ x2 then some (0, μ) else lt ((48 * x1) + (4 * x2)) (fun v2 => lt (v2 + 2) (fun v3 => ck (inb v3 288) (if (ga 3 μ v3.toNatClampNeg) < 0 then b12_summedBy_58 N x1 v2 μ else lt (v2 + 2) (fun v9 => ck (inb v9 288) (lt (v2 + 3) (fun v11 => ck (inb v11 288) (bd (p12_reckons N x1 (ga 3 μ v9.toNatClampNeg) (ga 3 μ v11.toNatClampNeg) μ) (fun r13 μ13 => if (lg_cmp r13 1) = 0 then b12_summedBy_58 N x1 v2 μ13 else lt (x2 + 1) (fun v14 => b12_summedBy_2 N n x1 v14 μ13))))))))))
set_option maxHeartbeats 4000000 in
set_option maxRecDepth 100000 in
theorem t12_summedBy_2 {p : Program} {l : Launch} {e : Env} {s : State} {m : MethodId} {args : Array Value} {below : List Frame} {meth : Method} {c : Code} {D : va_G} {θ : Th} {A : Nat → Prop} (K : KM p s m args c c12_summedBy 4 y12_summedBy (some .long) D θ A) (hr : meth.sig.returnType = (some .long)) (hlk : meth.locks = false) (N : Nat) (ρ : Int64 × Mz) : ∀ (n : Nat) (x1 : Int32) (x2 : Int32) (μ : Mz), b12_summedBy_2 N n x1 x2 μ = some ρ → JM p l e s m args below meth c D θ A 3 4 (QMl below args s D θ A ρ) μ [(0, .ref θ.1), (1, .int x1), (2, .int x2)] [] 2 := by
  intro n
  induction n with
  | zero =>
    intro x1 x2 μ h
    exact absurd h (by simp [b12_summedBy_2])
  | succ n ih =>
    intro x1 x2 μ h
    rw [b12_summedBy_2] at h
    refine j_iload_n K 2 d12_summedBy_2 rfl rfl ?_
    refine j_aload_n K 0 d12_summedBy_3 rfl rfl ?_
    refine mg_clauses K d12_summedBy_4 ?_
    refine j_iload_n K 1 d12_summedBy_7 rfl rfl ?_
    obtain ⟨q1, h⟩ := ck_e h
    refine ml_clauses K (inb_e q1) d12_summedBy_8 ?_
    refine j_icmp_ge (tgt := 84) K d12_summedBy_9 (by decide) (fun q => ?_) (fun q => ?_)
    · have h := if_t h q
      refine j_lconst (v := 0) K d12_summedBy_84 (by decide) ?_
      exact mret_l K h hr hlk d12_summedBy_85
    · have h := if_f h q
      refine j_bipush (v := 48) K d12_summedBy_12 (by decide) ?_
      refine j_iload_n K 1 d12_summedBy_14 rfl rfl ?_
      refine j_imul K d12_summedBy_15 ?_
      refine j_iconst (v := 4) K d12_summedBy_16 (by decide) ?_
      refine j_iload_n K 2 d12_summedBy_17 rfl rfl ?_
      refine j_imul K d12_summedBy_18 ?_
      refine j_iadd K d12_summedBy_19 ?_
      obtain ⟨v2, e2, h⟩ := lt_e h
      refine j_eqi e2 ?_
      refine j_istore_n (lv' := [(3, .int v2), (0, .ref θ.1), (1, .int x1), (2, .int x2)]) K d12_summedBy_20 rfl (by decide) rfl ?_
      refine j_aload_n K 1 d12_summedBy_21 rfl rfl ?_
      refine mg_clause K d12_summedBy_22 ?_
      refine j_iload_n K 0 d12_summedBy_25 rfl rfl ?_
      refine j_iconst (v := 2) K d12_summedBy_26 (by decide) ?_
      refine j_iadd K d12_summedBy_27 ?_
      obtain ⟨v3, e3, h⟩ := lt_e h
      refine j_eqi e3 ?_
      obtain ⟨q4, h⟩ := ck_e h
      refine ml_clause K (inb_e q4) d12_summedBy_28 ?_
      refine j_if_lt (tgt := 58) K d12_summedBy_29 (by decide) (fun q => ?_) (fun q => ?_)
      · have h := if_t h q
        refine j_sub [1, 2, 0] rfl ?_
        exact t12_summedBy_58 K hr hlk N ρ x1 v2 μ h
      · have h := if_f h q
        refine j_aload_n K 1 d12_summedBy_32 rfl rfl ?_
        refine j_iload_n K 2 d12_summedBy_33 rfl rfl ?_
        refine j_aload_n K 1 d12_summedBy_34 rfl rfl ?_
        refine mg_clause K d12_summedBy_35 ?_
        refine j_iload_n K 0 d12_summedBy_38 rfl rfl ?_
        refine j_iconst (v := 2) K d12_summedBy_39 (by decide) ?_
        refine j_iadd K d12_summedBy_40 ?_
        obtain ⟨v9, e9, h⟩ := lt_e h
        refine j_eqi e9 ?_
        obtain ⟨q10, h⟩ := ck_e h
        refine ml_clause K (inb_e q10) d12_summedBy_41 ?_
        refine j_aload_n K 1 d12_summedBy_42 rfl rfl ?_
        refine mg_clause K d12_summedBy_43 ?_
        refine j_iload_n K 0 d12_summedBy_46 rfl rfl ?_
        refine j_iconst (v := 3) K d12_summedBy_47 (by decide) ?_
        refine j_iadd K d12_summedBy_48 ?_
        obtain ⟨v11, e11, h⟩ := lt_e h
        refine j_eqi e11 ?_
        obtain ⟨q12, h⟩ := ck_e h
        refine ml_clause K (inb_e q12) d12_summedBy_49 ?_
        obtain ⟨r13, μ13, e13, h⟩ := bd_e h
        refine mcall_l K (c12_reckons_ok l D θ N x1 (ga 3 μ v9.toNatClampNeg) (ga 3 μ v11.toNatClampNeg) μ _ e13) mG_reckons mh_reckons (by decide) (by decide) rfl (st := []) (Nat.le_of_ble_eq_true rfl) rfl d12_summedBy_50 ?_
        refine j_lconst (v := 1) K d12_summedBy_53 (by decide) ?_
        refine j_lcmp K d12_summedBy_54 ?_
        refine j_if_ne (tgt := 78) K d12_summedBy_55 (by decide) (fun q => ?_) (fun q => ?_)
        · have h := if_f h q
          obtain ⟨v14, e14, h⟩ := lt_e h
          refine j_iinc (k := 3) (v := v14) (lv' := [(2, .int v14), (3, .int v2), (0, .ref θ.1), (1, .int x1)]) K d12_summedBy_78 rfl (by rw [e14]; rfl) (by decide) rfl ?_
          refine j_goto (tgt := 2) K d12_summedBy_81 (by decide) ?_
          refine j_sub [2, 3, 0] rfl ?_
          exact ih x1 v14 μ13 h
        · have h := if_t h q
          refine j_sub [1, 2, 0] rfl ?_
          exact t12_summedBy_58 K hr hlk N ρ x1 v2 μ13 h
def p12_summedBy (N : Nat) (a1 : Int32) (μ : Mz) : Option (Int64 × Mz) := b12_summedBy_2 N N a1 0 μ
set_option maxHeartbeats 4000000 in
set_option maxRecDepth 100000 in
theorem c12_summedBy_ok (l : Launch) (D : va_G) (θ : Th) (N : Nat) (a1 : Int32) (μ : Mz) (ρ : Int64 × Mz) (h : p12_summedBy N a1 μ = some ρ) : CMl l D θ y12_summedBy c12_summedBy 4 (some .long) 3 [.int a1] μ ρ := by
  intro sz
  refine j_met l [.ref θ.1, .int a1] (by decide +kernel) (Nat.le_of_ble_eq_true rfl) ?_
  intro p e s m args below meth c K hr hlk hnm hs
  generalize va_A (wM θ μ) sz = A at K ⊢
  have K : KM p s m args c c12_summedBy 4 y12_summedBy (some .long) D θ A := K
  show JM p l e s m args below meth c D θ A 3 4 (QMl below args s D θ A ρ) μ [(0, .ref θ.1), (1, .int a1)] [] 0
  unfold p12_summedBy at h
  refine j_iconst (v := 0) K d12_summedBy_0 (by decide) ?_
  refine j_istore_n (lv' := [(2, .int 0), (0, .ref θ.1), (1, .int a1)]) K d12_summedBy_1 rfl (by decide) rfl ?_
  refine j_sub [1, 2, 0] rfl ?_
  exact t12_summedBy_2 K hr hlk N ρ N a1 0 μ h
def b12_rings_65 (N : Nat) (k18 : Int32 → Int32 → Int32 → Mz → Option (Int32 × Mz)) (k55 : Int32 → Int32 → Int32 → Int32 → Int32 → Mz → Option (Int32 × Mz)) : Nat → Int32 → Int32 → Int32 → Int32 → Int32 → Int32 → Mz → Option (Int32 × Mz)
  | 0, _, _, _, _, _, _, _ => none
  | n + 1, x1, x2, x3, x4, x5, x6, μ => if (ga 7 μ (3 : Int32).toNatClampNeg) ≤ x6 then lt (x5 + 1) (fun v11 => k55 x1 x2 x3 x4 v11 μ) else bo (p12_isOf N x4 x6) (fun r12 => if r12 = 0 then lt (x6 + 1) (fun v13 => b12_rings_65 N k18 k55 n x1 x2 x3 x4 x5 v13 μ) else lt (33 + x6) (fun v14 => ck (inb v14 129) (lt (x4 ||| ((ga 7 μ v14.toNatClampNeg) &&& x1)) (fun v16 => lt (x6 + 1) (fun v17 => b12_rings_65 N k18 k55 n x1 x2 x3 v16 x5 v17 μ)))))
set_option maxHeartbeats 4000000 in
set_option maxRecDepth 100000 in
theorem t12_rings_65 {p : Program} {l : Launch} {e : Env} {s : State} {m : MethodId} {args : Array Value} {below : List Frame} {meth : Method} {c : Code} {D : va_G} {θ : Th} {A : Nat → Prop} (K : KM p s m args c c12_rings 7 y12_rings (some .int) D θ A) (hr : meth.sig.returnType = (some .int)) (hlk : meth.locks = false) (N : Nat) (ρ : Int32 × Mz) (k18 : Int32 → Int32 → Int32 → Mz → Option (Int32 × Mz)) (hk18 : ∀ (x1 : Int32) (x2 : Int32) (x3 : Int32) (μ : Mz), k18 x1 x2 x3 μ = some ρ → JM p l e s m args below meth c D θ A 3 7 (QMi below args s D θ A ρ) μ [(0, .ref θ.1), (1, .int x1), (2, .int x2), (3, .int x3)] [] 18) (k55 : Int32 → Int32 → Int32 → Int32 → Int32 → Mz → Option (Int32 × Mz)) (hk55 : ∀ (x1 : Int32) (x2 : Int32) (x3 : Int32) (x4 : Int32) (x5 : Int32) (μ : Mz), k55 x1 x2 x3 x4 x5 μ = some ρ → JM p l e s m args below meth c D θ A 3 7 (QMi below args s D θ A ρ) μ [(0, .ref θ.1), (1, .int x1), (2, .int x2), (3, .int x3), (4, .int x4), (5, .int x5)] [] 55) : ∀ (n : Nat) (x1 : Int32) (x2 : Int32) (x3 : Int32) (x4 : Int32) (x5 : Int32) (x6 : Int32) (μ : Mz), b12_rings_65 N k18 k55 n x1 x2 x3 x4 x5 x6 μ = some ρ → JM p l e s m args below meth c D θ A 3 7 (QMi below args s D θ A ρ) μ [(0, .ref θ.1), (1, .int x1), (2, .int x2), (3, .int x3), (4, .int x4), (5, .int x5), (6, .int x6)] [] 65 := by
  intro n
  induction n with
  | zero =>
    intro x1 x2 x3 x4 x5 x6 μ h
    exact absurd h (by simp [b12_rings_65])
  | succ n ih =>
    intro x1 x2 x3 x4 x5 x6 μ h
    rw [b12_rings_65] at h
    refine j_iload K 6 d12_rings_65 rfl ?_
    refine j_aload_n K 0 d12_rings_67 rfl rfl ?_
    refine mg_said K d12_rings_68 ?_
    refine j_iconst (v := 3) K d12_rings_71 (by decide) ?_
    refine ml_said K (inb_e (by decide)) d12_rings_72 ?_
    refine j_icmp_ge (tgt := 109) K d12_rings_73 (by decide) (fun q => ?_) (fun q => ?_)
    · have h := if_t h q
      obtain ⟨v11, e11, h⟩ := lt_e h
      refine j_iinc (k := 5) (v := v11) (lv' := [(5, .int v11), (0, .ref θ.1), (1, .int x1), (2, .int x2), (3, .int x3), (4, .int x4), (6, .int x6)]) K d12_rings_109 rfl (by rw [e11]; rfl) (by decide) rfl ?_
      refine j_goto (tgt := 55) K d12_rings_112 (by decide) ?_
      refine j_sub [1, 2, 3, 4, 5, 0] rfl ?_
      exact hk55 x1 x2 x3 x4 v11 μ h
    · have h := if_f h q
      refine j_iload K 4 d12_rings_76 rfl ?_
      refine j_iload K 6 d12_rings_78 rfl ?_
      obtain ⟨r12, e12, h⟩ := bo_e h
      refine mcalls_i K (c12_isOf_ok l D θ N x4 x6 _ e12) mG_isOf mh_isOf (by decide) (by decide) rfl (st := []) (Nat.le_of_ble_eq_true rfl) rfl d12_rings_80 ?_
      refine j_if_eq (tgt := 103) K d12_rings_83 (by decide) (fun q => ?_) (fun q => ?_)
      · have h := if_t h q
        obtain ⟨v13, e13, h⟩ := lt_e h
        refine j_iinc (k := 6) (v := v13) (lv' := [(6, .int v13), (0, .ref θ.1), (1, .int x1), (2, .int x2), (3, .int x3), (4, .int x4), (5, .int x5)]) K d12_rings_103 rfl (by rw [e13]; rfl) (by decide) rfl ?_
        refine j_goto (tgt := 65) K d12_rings_106 (by decide) ?_
        refine j_sub [1, 2, 3, 4, 5, 6, 0] rfl ?_
        exact ih x1 x2 x3 x4 x5 v13 μ h
      · have h := if_f h q
        refine j_iload K 4 d12_rings_86 rfl ?_
        refine j_aload_n K 0 d12_rings_88 rfl rfl ?_
        refine mg_said K d12_rings_89 ?_
        refine j_bipush (v := 33) K d12_rings_92 (by decide) ?_
        refine j_iload K 6 d12_rings_94 rfl ?_
        refine j_iadd K d12_rings_96 ?_
        obtain ⟨v14, e14, h⟩ := lt_e h
        refine j_eqi e14 ?_
        obtain ⟨q15, h⟩ := ck_e h
        refine ml_said K (inb_e q15) d12_rings_97 ?_
        refine j_iload_n K 1 d12_rings_98 rfl rfl ?_
        refine j_iand K d12_rings_99 ?_
        refine j_ior K d12_rings_100 ?_
        obtain ⟨v16, e16, h⟩ := lt_e h
        refine j_eqi e16 ?_
        refine j_istore (lv' := [(4, .int v16), (0, .ref θ.1), (1, .int x1), (2, .int x2), (3, .int x3), (5, .int x5), (6, .int x6)]) K d12_rings_101 (by decide) rfl ?_
        obtain ⟨v17, e17, h⟩ := lt_e h
        refine j_iinc (k := 6) (v := v17) (lv' := [(6, .int v17), (4, .int v16), (0, .ref θ.1), (1, .int x1), (2, .int x2), (3, .int x3), (5, .int x5)]) K d12_rings_103 rfl (by rw [e17]; rfl) (by decide) rfl ?_
        refine j_goto (tgt := 65) K d12_rings_106 (by decide) ?_
        refine j_sub [2, 3, 4, 5, 1, 6, 0] rfl ?_
        exact ih x1 x2 x3 v16 x5 v17 μ h
def b12_rings_55 (N : Nat) (k18 : Int32 → Int32 → Int32 → Mz → Option (Int32 × Mz)) : Nat → Int32 → Int32 → Int32 → Int32 → Int32 → Mz → Option (Int32 × Mz)
  | 0, _, _, _, _, _, _ => none
  | n + 1, x1, x2, x3, x4, x5, μ => if 10 ≤ x5 then bo (p12_isOf N x4 x3) (fun r7 => if r7 = 0 then lt (x3 + 1) (fun v8 => k18 x1 x2 v8 μ) else lt (x2 ||| ((1 : Int32) <<< (x3 &&& 31))) (fun v9 => lt (x3 + 1) (fun v10 => k18 x1 v9 v10 μ))) else b12_rings_65 N k18 (b12_rings_55 N k18 n) N x1 x2 x3 x4 x5 0 μ
set_option maxHeartbeats 4000000 in
set_option maxRecDepth 100000 in
theorem t12_rings_55 {p : Program} {l : Launch} {e : Env} {s : State} {m : MethodId} {args : Array Value} {below : List Frame} {meth : Method} {c : Code} {D : va_G} {θ : Th} {A : Nat → Prop} (K : KM p s m args c c12_rings 7 y12_rings (some .int) D θ A) (hr : meth.sig.returnType = (some .int)) (hlk : meth.locks = false) (N : Nat) (ρ : Int32 × Mz) (k18 : Int32 → Int32 → Int32 → Mz → Option (Int32 × Mz)) (hk18 : ∀ (x1 : Int32) (x2 : Int32) (x3 : Int32) (μ : Mz), k18 x1 x2 x3 μ = some ρ → JM p l e s m args below meth c D θ A 3 7 (QMi below args s D θ A ρ) μ [(0, .ref θ.1), (1, .int x1), (2, .int x2), (3, .int x3)] [] 18) : ∀ (n : Nat) (x1 : Int32) (x2 : Int32) (x3 : Int32) (x4 : Int32) (x5 : Int32) (μ : Mz), b12_rings_55 N k18 n x1 x2 x3 x4 x5 μ = some ρ → JM p l e s m args below meth c D θ A 3 7 (QMi below args s D θ A ρ) μ [(0, .ref θ.1), (1, .int x1), (2, .int x2), (3, .int x3), (4, .int x4), (5, .int x5)] [] 55 := by
  intro n
  induction n with
  | zero =>
    intro x1 x2 x3 x4 x5 μ h
    exact absurd h (by simp [b12_rings_55])
  | succ n ih =>
    intro x1 x2 x3 x4 x5 μ h
    rw [b12_rings_55] at h
    refine j_iload K 5 d12_rings_55 rfl ?_
    refine j_bipush (v := 10) K d12_rings_57 (by decide) ?_
    refine j_icmp_ge (tgt := 115) K d12_rings_59 (by decide) (fun q => ?_) (fun q => ?_)
    · have h := if_t h q
      refine j_iload K 4 d12_rings_115 rfl ?_
      refine j_iload_n K 3 d12_rings_117 rfl rfl ?_
      obtain ⟨r7, e7, h⟩ := bo_e h
      refine mcalls_i K (c12_isOf_ok l D θ N x4 x3 _ e7) mG_isOf mh_isOf (by decide) (by decide) rfl (st := []) (Nat.le_of_ble_eq_true rfl) rfl d12_rings_118 ?_
      refine j_if_eq (tgt := 130) K d12_rings_121 (by decide) (fun q => ?_) (fun q => ?_)
      · have h := if_t h q
        obtain ⟨v8, e8, h⟩ := lt_e h
        refine j_iinc (k := 3) (v := v8) (lv' := [(3, .int v8), (0, .ref θ.1), (1, .int x1), (2, .int x2), (4, .int x4), (5, .int x5)]) K d12_rings_130 rfl (by rw [e8]; rfl) (by decide) rfl ?_
        refine j_goto (tgt := 18) K d12_rings_133 (by decide) ?_
        refine j_sub [1, 2, 3, 0] rfl ?_
        exact hk18 x1 x2 v8 μ h
      · have h := if_f h q
        refine j_iload_n K 2 d12_rings_124 rfl rfl ?_
        refine j_iconst (v := 1) K d12_rings_125 (by decide) ?_
        refine j_iload_n K 3 d12_rings_126 rfl rfl ?_
        refine j_ishl K d12_rings_127 ?_
        refine j_ior K d12_rings_128 ?_
        obtain ⟨v9, e9, h⟩ := lt_e h
        refine j_eqi e9 ?_
        refine j_istore_n (lv' := [(2, .int v9), (0, .ref θ.1), (1, .int x1), (3, .int x3), (4, .int x4), (5, .int x5)]) K d12_rings_129 rfl (by decide) rfl ?_
        obtain ⟨v10, e10, h⟩ := lt_e h
        refine j_iinc (k := 3) (v := v10) (lv' := [(3, .int v10), (2, .int v9), (0, .ref θ.1), (1, .int x1), (4, .int x4), (5, .int x5)]) K d12_rings_130 rfl (by rw [e10]; rfl) (by decide) rfl ?_
        refine j_goto (tgt := 18) K d12_rings_133 (by decide) ?_
        refine j_sub [2, 3, 1, 0] rfl ?_
        exact hk18 x1 v9 v10 μ h
    · have h := if_f h q
      refine j_iconst (v := 0) K d12_rings_62 (by decide) ?_
      refine j_istore (lv' := [(6, .int 0), (0, .ref θ.1), (1, .int x1), (2, .int x2), (3, .int x3), (4, .int x4), (5, .int x5)]) K d12_rings_63 (by decide) rfl ?_
      refine j_sub [1, 2, 3, 4, 5, 6, 0] rfl ?_
      exact t12_rings_65 K hr hlk N ρ k18 hk18 (b12_rings_55 N k18 n) ih N x1 x2 x3 x4 x5 0 μ h
def b12_rings_18 (N : Nat) : Nat → Int32 → Int32 → Int32 → Mz → Option (Int32 × Mz)
  | 0, _, _, _, _ => none
  | n + 1, x1, x2, x3, μ => if (ga 7 μ (3 : Int32).toNatClampNeg) ≤ x3 then some (x2, μ) else bo (p12_isOf N x1 x3) (fun r3 => if r3 = 0 then lt (x3 + 1) (fun v18 => b12_rings_18 N n x1 x2 v18 μ) else lt (33 + x3) (fun v4 => ck (inb v4 129) (lt ((ga 7 μ v4.toNatClampNeg) &&& x1) (fun v6 => b12_rings_55 N (b12_rings_18 N n) N x1 x2 x3 v6 0 μ))))
set_option maxHeartbeats 4000000 in
set_option maxRecDepth 100000 in
theorem t12_rings_18 {p : Program} {l : Launch} {e : Env} {s : State} {m : MethodId} {args : Array Value} {below : List Frame} {meth : Method} {c : Code} {D : va_G} {θ : Th} {A : Nat → Prop} (K : KM p s m args c c12_rings 7 y12_rings (some .int) D θ A) (hr : meth.sig.returnType = (some .int)) (hlk : meth.locks = false) (N : Nat) (ρ : Int32 × Mz) : ∀ (n : Nat) (x1 : Int32) (x2 : Int32) (x3 : Int32) (μ : Mz), b12_rings_18 N n x1 x2 x3 μ = some ρ → JM p l e s m args below meth c D θ A 3 7 (QMi below args s D θ A ρ) μ [(0, .ref θ.1), (1, .int x1), (2, .int x2), (3, .int x3)] [] 18 := by
  intro n
  induction n with
  | zero =>
    intro x1 x2 x3 μ h
    exact absurd h (by simp [b12_rings_18])
  | succ n ih =>
    intro x1 x2 x3 μ h
    rw [b12_rings_18] at h
    refine j_iload_n K 3 d12_rings_18 rfl rfl ?_
    refine j_aload_n K 0 d12_rings_19 rfl rfl ?_
    refine mg_said K d12_rings_20 ?_
    refine j_iconst (v := 3) K d12_rings_23 (by decide) ?_
    refine ml_said K (inb_e (by decide)) d12_rings_24 ?_
    refine j_icmp_ge (tgt := 136) K d12_rings_25 (by decide) (fun q => ?_) (fun q => ?_)
    · have h := if_t h q
      refine j_iload_n K 2 d12_rings_136 rfl rfl ?_
      exact mret_i K h hr hlk d12_rings_137
    · have h := if_f h q
      refine j_iload_n K 1 d12_rings_28 rfl rfl ?_
      refine j_iload_n K 3 d12_rings_29 rfl rfl ?_
      obtain ⟨r3, e3, h⟩ := bo_e h
      refine mcalls_i K (c12_isOf_ok l D θ N x1 x3 _ e3) mG_isOf mh_isOf (by decide) (by decide) rfl (st := []) (Nat.le_of_ble_eq_true rfl) rfl d12_rings_30 ?_
      refine j_if_ne (tgt := 39) K d12_rings_33 (by decide) (fun q => ?_) (fun q => ?_)
      · have h := if_f h q
        refine j_aload_n K 0 d12_rings_39 rfl rfl ?_
        refine mg_said K d12_rings_40 ?_
        refine j_bipush (v := 33) K d12_rings_43 (by decide) ?_
        refine j_iload_n K 3 d12_rings_45 rfl rfl ?_
        refine j_iadd K d12_rings_46 ?_
        obtain ⟨v4, e4, h⟩ := lt_e h
        refine j_eqi e4 ?_
        obtain ⟨q5, h⟩ := ck_e h
        refine ml_said K (inb_e q5) d12_rings_47 ?_
        refine j_iload_n K 1 d12_rings_48 rfl rfl ?_
        refine j_iand K d12_rings_49 ?_
        obtain ⟨v6, e6, h⟩ := lt_e h
        refine j_eqi e6 ?_
        refine j_istore (lv' := [(4, .int v6), (0, .ref θ.1), (1, .int x1), (2, .int x2), (3, .int x3)]) K d12_rings_50 (by decide) rfl ?_
        refine j_iconst (v := 0) K d12_rings_52 (by decide) ?_
        refine j_istore (lv' := [(5, .int 0), (4, .int v6), (0, .ref θ.1), (1, .int x1), (2, .int x2), (3, .int x3)]) K d12_rings_53 (by decide) rfl ?_
        refine j_sub [2, 3, 4, 5, 1, 0] rfl ?_
        exact t12_rings_55 K hr hlk N ρ (b12_rings_18 N n) ih N x1 x2 x3 v6 0 μ h
      · have h := if_t h q
        refine j_goto (tgt := 130) K d12_rings_36 (by decide) ?_
        obtain ⟨v18, e18, h⟩ := lt_e h
        refine j_iinc (k := 3) (v := v18) (lv' := [(3, .int v18), (0, .ref θ.1), (1, .int x1), (2, .int x2)]) K d12_rings_130 rfl (by rw [e18]; rfl) (by decide) rfl ?_
        refine j_goto (tgt := 18) K d12_rings_133 (by decide) ?_
        refine j_sub [1, 2, 3, 0] rfl ?_
        exact ih x1 x2 v18 μ h
def p12_rings (N : Nat)  (μ : Mz) : Option (Int32 × Mz) := bd (p12_isBook N  μ) (fun r1 μ1 => if r1 = 0 then some ((-1), μ1) else bd (p12_wrongOnes N  μ1) (fun r2 μ2 => b12_rings_18 N N r2 0 0 μ2))
set_option maxHeartbeats 4000000 in
set_option maxRecDepth 100000 in
theorem c12_rings_ok (l : Launch) (D : va_G) (θ : Th) (N : Nat)  (μ : Mz) (ρ : Int32 × Mz) (h : p12_rings N  μ = some ρ) : CMi l D θ y12_rings c12_rings 7 (some .int) 3 [] μ ρ := by
  intro sz
  refine j_met l [.ref θ.1] (by decide +kernel) (Nat.le_of_ble_eq_true rfl) ?_
  intro p e s m args below meth c K hr hlk hnm hs
  generalize va_A (wM θ μ) sz = A at K ⊢
  have K : KM p s m args c c12_rings 7 y12_rings (some .int) D θ A := K
  show JM p l e s m args below meth c D θ A 3 7 (QMi below args s D θ A ρ) μ [(0, .ref θ.1)] [] 0
  unfold p12_rings at h
  refine j_aload_n K 0 d12_rings_0 rfl rfl ?_
  obtain ⟨r1, μ1, e1, h⟩ := bd_e h
  refine mcall_i K (c12_isBook_ok l D θ N  μ _ e1) mG_isBook mh_isBook (by decide) (by decide) rfl (st := []) (Nat.le_of_ble_eq_true rfl) rfl d12_rings_1 ?_
  refine j_if_ne (tgt := 9) K d12_rings_4 (by decide) (fun q => ?_) (fun q => ?_)
  · have h := if_f h q
    refine j_aload_n K 0 d12_rings_9 rfl rfl ?_
    obtain ⟨r2, μ2, e2, h⟩ := bd_e h
    refine mcall_i K (c12_wrongOnes_ok l D θ N  μ1 _ e2) mG_wrongOnes mh_wrongOnes (by decide) (by decide) rfl (st := []) (Nat.le_of_ble_eq_true rfl) rfl d12_rings_10 ?_
    refine j_istore_n (lv' := [(1, .int r2), (0, .ref θ.1)]) K d12_rings_13 rfl (by decide) rfl ?_
    refine j_iconst (v := 0) K d12_rings_14 (by decide) ?_
    refine j_istore_n (lv' := [(2, .int 0), (1, .int r2), (0, .ref θ.1)]) K d12_rings_15 rfl (by decide) rfl ?_
    refine j_iconst (v := 0) K d12_rings_16 (by decide) ?_
    refine j_istore_n (lv' := [(3, .int 0), (2, .int 0), (1, .int r2), (0, .ref θ.1)]) K d12_rings_17 rfl (by decide) rfl ?_
    refine j_sub [3, 2, 1, 0] rfl ?_
    exact t12_rings_18 K hr hlk N ρ N r2 0 0 μ2 h
  · have h := if_t h q
    refine j_iconst (v := (-1)) K d12_rings_7 (by decide) ?_
    exact mret_i K h hr hlk d12_rings_8
