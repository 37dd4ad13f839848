def b_ErrataRow_look_70 (N : Nat) : Nat → Nat → Int32 → Int32 → Int32 → Int32 → Int32 → Cz → Option (Int32 × Cz)
  | 0, _, _, _, _, _, _, _ => none
  | n + 1, x0, x2, x3, x4, x5, x6, κ => ck (isK κ x0 11) (bo (fr κ x0 7) (fun o16 => ck (isK κ o16 10) (bo (fr κ o16 0) (fun o18 => ck (isK κ o18 0) (if (fi κ o18 2) ≤ x6 then if x2 = 0 then some (x4, κ) else some (x5, κ) else bd (p_ErrataRow_mostAlike N x0 x6 x3 κ) (fun r20 κ20 => if x5 ≤ r20 then lt (x6 + 1) (fun v21 => b_ErrataRow_look_70 N n x0 x2 x3 x4 x5 v21 κ20) else lt (x6 + 1) (fun v22 => b_ErrataRow_look_70 N n x0 x2 x3 x6 r20 v22 κ20)))))))
set_option maxHeartbeats 4000000 in
set_option maxRecDepth 100000 in
theorem t_ErrataRow_look_70 {p : Program} {l : Launch} {e : Env} {s : State} {m : MethodId} {args : Array Value} {below : List Frame} {meth : Method} {c : Code} {D : va_G} {θ : Tc} {A : Nat → Prop} (K : KE p s m args c c_ErrataRow_look 8 "ErrataRow" y_ErrataRow_look (some .int) D θ A) (hN : NX s) (hr : meth.sig.returnType = (some .int)) (hlk : meth.locks = false) (N : Nat) (ρ : Int32 × Cz) : ∀ (n : Nat) (x0 : Nat) (x2 : Int32) (x3 : Int32) (x4 : Int32) (x5 : Int32) (x6 : Int32) (κ : Cz), b_ErrataRow_look_70 N n x0 x2 x3 x4 x5 x6 κ = some ρ → JE p l e (rmA 8 0 0) s m args below meth c D θ A 8 0 0 (QEi below args s D θ A 0 0 ρ) κ [(0, .ref x0), (2, .int x2), (3, .int x3), (4, .int x4), (5, .int x5), (6, .int x6)] [] 70 := by
  intro n
  induction n with
  | zero =>
    intro x0 x2 x3 x4 x5 x6 κ h
    exact absurd h (by simp [b_ErrataRow_look_70])
  | succ n ih =>
    intro x0 x2 x3 x4 x5 x6 κ h
    rw [b_ErrataRow_look_70] at h
    refine j_iload K 5 d_ErrataRow_look_70 rfl ?_
    refine j_aload_n K 0 d_ErrataRow_look_72 rfl rfl ?_
    obtain ⟨q15, h⟩ := ck_e h
    refine eg_ErrataRow_world K ef_ErrataRow_45 q15 d_ErrataRow_look_73 ?_
    obtain ⟨o16, e16, h⟩ := bo_e h
    refine j_eqq e16 ?_
    obtain ⟨q17, h⟩ := ck_e h
    refine eg_World_book K ef_ErrataRow_62 q17 d_ErrataRow_look_76 ?_
    obtain ⟨o18, e18, h⟩ := bo_e h
    refine j_eqq e18 ?_
    obtain ⟨q19, h⟩ := ck_e h
    refine eg_Book_letters K ef_ErrataRow_123 q19 d_ErrataRow_look_79 ?_
    refine j_icmp_ge (tgt := 115) K d_ErrataRow_look_82 (by decide) (fun q => ?_) (fun q => ?_)
    · have h := if_t h q
      refine j_iload_n K 1 d_ErrataRow_look_115 rfl rfl ?_
      refine j_if_ne (tgt := 124) K d_ErrataRow_look_116 (by decide) (fun q => ?_) (fun q => ?_)
      · have h := if_f h q
        refine j_iload K 4 d_ErrataRow_look_124 rfl ?_
        exact eret_i K h hr hlk d_ErrataRow_look_126
      · have h := if_t h q
        refine j_iload K 3 d_ErrataRow_look_119 rfl ?_
        refine j_goto (tgt := 126) K d_ErrataRow_look_121 (by decide) ?_
        exact eret_i K h hr hlk d_ErrataRow_look_126
    · have h := if_f h q
      refine j_aload_n K 0 d_ErrataRow_look_85 rfl rfl ?_
      refine j_iload K 5 d_ErrataRow_look_86 rfl ?_
      refine j_iload_n K 2 d_ErrataRow_look_88 rfl rfl ?_
      obtain ⟨r20, κ20, e20, h⟩ := bd_e h
      refine ecallV_i K hN (c_ErrataRow_mostAlike_ok l D θ N x0 x6 x3 κ _ e20) eG_ErrataRow_346 eh_ErrataRow_mostAlike (by decide) (rmA_ok (by decide) (by decide)) rfl q15 (by decide) rfl (st := []) (Nat.le_of_ble_eq_true rfl) rfl d_ErrataRow_look_89 ⟨Nat.le_of_ble_eq_true rfl, Nat.le_of_ble_eq_true rfl⟩ ?_
      refine j_istore (lv' := [(7, .int r20), (0, .ref x0), (2, .int x2), (3, .int x3), (4, .int x4), (5, .int x5), (6, .int x6)]) K d_ErrataRow_look_92 (by decide) rfl ?_
      refine j_iload K 0 d_ErrataRow_look_94 rfl ?_
      refine j_iload K 5 d_ErrataRow_look_96 rfl ?_
      refine j_icmp_ge (tgt := 109) K d_ErrataRow_look_98 (by decide) (fun q => ?_) (fun q => ?_)
      · have h := if_t h q
        obtain ⟨v21, e21, h⟩ := lt_e h
        refine j_iinc (k := 6) (v := v21) (lv' := [(6, .int v21), (7, .int r20), (0, .ref x0), (2, .int x2), (3, .int x3), (4, .int x4), (5, .int x5)]) K d_ErrataRow_look_109 rfl (by rw [e21]; rfl) (by decide) rfl ?_
        refine j_goto (tgt := 70) K d_ErrataRow_look_112 (by decide) ?_
        refine j_sub [2, 3, 4, 5, 6, 0] rfl ?_
        exact ih x0 x2 x3 x4 x5 v21 κ20 h
      · have h := if_f h q
        refine j_iload K 0 d_ErrataRow_look_101 rfl ?_
        refine j_istore (lv' := [(5, .int r20), (7, .int r20), (0, .ref x0), (2, .int x2), (3, .int x3), (4, .int x4), (6, .int x6)]) K d_ErrataRow_look_103 (by decide) rfl ?_
        refine j_iload K 6 d_ErrataRow_look_105 rfl ?_
        refine j_istore (lv' := [(4, .int x6), (5, .int r20), (7, .int r20), (0, .ref x0), (2, .int x2), (3, .int x3), (6, .int x6)]) K d_ErrataRow_look_107 (by decide) rfl ?_
        obtain ⟨v22, e22, h⟩ := lt_e h
        refine j_iinc (k := 6) (v := v22) (lv' := [(6, .int v22), (4, .int x6), (5, .int r20), (7, .int r20), (0, .ref x0), (2, .int x2), (3, .int x3)]) K d_ErrataRow_look_109 rfl (by rw [e22]; rfl) (by decide) rfl ?_
        refine j_goto (tgt := 70) K d_ErrataRow_look_112 (by decide) ?_
        refine j_sub [4, 5, 6, 1, 2, 0] rfl ?_
        exact ih x0 x2 x3 x6 r20 v22 κ20 h
def p_ErrataRow_look (N : Nat) (this : Nat) (a1 : Int32) (a2 : Int32) (κ : Cz) : Option (Int32 × Cz) := ck (isK κ this 11) (bo (fr κ this 7) (fun o2 => ck (isK κ o2 10) (bo (fr κ o2 0) (fun o4 => ck (isK κ o4 0) (if (fi κ o4 0) = 0 then some ((-1), κ) else bd (p_ErrataRow_within N a1 0 60 κ) (fun r6 κ6 => if r6 = 0 then some ((-1), κ6) else bd (p_ErrataRow_within N a2 0 1 κ6) (fun r7 κ7 => if r7 = 0 then some ((-1), κ7) else ck (isK κ7 this 11) (bd (p_ErrataRow_keepPutsOfRuled N this a1 κ7) (fun r8 κ8 => if r8 = 0 then some ((-2), κ8) else ck (isK κ8 this 11) (bo (fr κ8 this 7) (fun o11 => ck (isK κ8 o11 10) (bo (fr κ8 o11 0) (fun o13 => ck (isK κ8 o13 0) (if (fi κ8 o13 2) = 0 then some ((-2), κ8) else b_ErrataRow_look_70 N N this a2 r8 (-1) 8 0 κ8))))))))))))))
set_option maxHeartbeats 4000000 in
set_option maxRecDepth 100000 in
theorem c_ErrataRow_look_ok (l : Launch) (D : va_G) (θ : Tc) (N : Nat) (this : Nat) (a1 : Int32) (a2 : Int32) (κ : Cz) (ρ : Int32 × Cz) (h : p_ErrataRow_look N this a1 a2 κ = some ρ) : CEi l D θ y_ErrataRow_look c_ErrataRow_look 8 (some .int) 8 0 0 [.ref this, .int a1, .int a2] κ ρ := by
  intro sz
  refine e_met l [.ref this, .int a1, .int a2] (by decide +kernel) (Nat.le_of_ble_eq_true rfl) ?_
  intro p e s m args below meth c K hN hr hlk hnm hs
  generalize va_A (wE θ κ) sz = A at K ⊢
  have K : KE p s m args c c_ErrataRow_look 8 "ErrataRow" y_ErrataRow_look (some .int) D θ A := K
  show JE p l e (rmA 8 0 0) s m args below meth c D θ A 8 0 0 (QEi below args s D θ A 0 0 ρ) κ [(0, .ref this), (1, .int a1), (2, .int a2)] [] 0
  unfold p_ErrataRow_look at h
  refine j_aload_n K 0 d_ErrataRow_look_0 rfl rfl ?_
  obtain ⟨q1, h⟩ := ck_e h
  refine eg_ErrataRow_world K ef_ErrataRow_45 q1 d_ErrataRow_look_1 ?_
  obtain ⟨o2, e2, h⟩ := bo_e h
  refine j_eqq e2 ?_
  obtain ⟨q3, h⟩ := ck_e h
  refine eg_World_book K ef_ErrataRow_62 q3 d_ErrataRow_look_4 ?_
  obtain ⟨o4, e4, h⟩ := bo_e h
  refine j_eqq e4 ?_
  obtain ⟨q5, h⟩ := ck_e h
  refine eg_Book_told K ef_ErrataRow_160 q5 d_ErrataRow_look_7 ?_
  refine j_if_eq (tgt := 32) K d_ErrataRow_look_10 (by decide) (fun q => ?_) (fun q => ?_)
  · have h := if_t h q
    refine j_iconst (v := (-1)) K d_ErrataRow_look_32 (by decide) ?_
    exact eret_i K h hr hlk d_ErrataRow_look_33
  · have h := if_f h q
    refine j_iload_n K 1 d_ErrataRow_look_13 rfl rfl ?_
    refine j_iconst (v := 0) K d_ErrataRow_look_14 (by decide) ?_
    refine j_bipush (v := 60) K d_ErrataRow_look_15 (by decide) ?_
    obtain ⟨r6, κ6, e6, h⟩ := bd_e h
    refine ecallS_i K hN (c_ErrataRow_within_ok l D θ N a1 0 60 κ _ e6) eG_ErrataRow_166 eh_ErrataRow_within (by decide) (rmA_ok (by decide) (by decide)) rfl (st := []) (Nat.le_of_ble_eq_true rfl) rfl d_ErrataRow_look_17 ⟨Nat.le_of_ble_eq_true rfl, Nat.le_of_ble_eq_true rfl⟩ ?_
    refine j_if_eq (tgt := 32) K d_ErrataRow_look_20 (by decide) (fun q => ?_) (fun q => ?_)
    · have h := if_t h q
      refine j_iconst (v := (-1)) K d_ErrataRow_look_32 (by decide) ?_
      exact eret_i K h hr hlk d_ErrataRow_look_33
    · have h := if_f h q
      refine j_iload_n K 2 d_ErrataRow_look_23 rfl rfl ?_
      refine j_iconst (v := 0) K d_ErrataRow_look_24 (by decide) ?_
      refine j_iconst (v := 1) K d_ErrataRow_look_25 (by decide) ?_
      obtain ⟨r7, κ7, e7, h⟩ := bd_e h
      refine ecallS_i K hN (c_ErrataRow_within_ok l D θ N a2 0 1 κ6 _ e7) eG_ErrataRow_166 eh_ErrataRow_within (by decide) (rmA_ok (by decide) (by decide)) rfl (st := []) (Nat.le_of_ble_eq_true rfl) rfl d_ErrataRow_look_26 ⟨Nat.le_of_ble_eq_true rfl, Nat.le_of_ble_eq_true rfl⟩ ?_
      refine j_if_ne (tgt := 34) K d_ErrataRow_look_29 (by decide) (fun q => ?_) (fun q => ?_)
      · have h := if_f h q
        refine j_aload_n K 0 d_ErrataRow_look_34 rfl rfl ?_
        refine j_iload_n K 1 d_ErrataRow_look_35 rfl rfl ?_
        obtain ⟨q9, h⟩ := ck_e h
        obtain ⟨r8, κ8, e8, h⟩ := bd_e h
        refine ecallV_i K hN (c_ErrataRow_keepPutsOfRuled_ok l D θ N this a1 κ7 _ e8) eG_ErrataRow_343 eh_ErrataRow_keepPutsOfRuled (by decide) (rmA_ok (by decide) (by decide)) rfl q9 (by decide) rfl (st := []) (Nat.le_of_ble_eq_true rfl) rfl d_ErrataRow_look_36 ⟨Nat.le_of_ble_eq_true rfl, Nat.le_of_ble_eq_true rfl⟩ ?_
        refine j_istore_n (lv' := [(3, .int r8), (0, .ref this), (1, .int a1), (2, .int a2)]) K d_ErrataRow_look_39 rfl (by decide) rfl ?_
        refine j_iload_n K 0 d_ErrataRow_look_40 rfl rfl ?_
        refine j_if_eq (tgt := 57) K d_ErrataRow_look_41 (by decide) (fun q => ?_) (fun q => ?_)
        · have h := if_t h q
          refine j_bipush (v := (-2)) K d_ErrataRow_look_57 (by decide) ?_
          exact eret_i K h hr hlk d_ErrataRow_look_59
        · have h := if_f h q
          refine j_aload_n K 1 d_ErrataRow_look_44 rfl rfl ?_
          obtain ⟨q10, h⟩ := ck_e h
          refine eg_ErrataRow_world K ef_ErrataRow_45 q10 d_ErrataRow_look_45 ?_
          obtain ⟨o11, e11, h⟩ := bo_e h
          refine j_eqq e11 ?_
          obtain ⟨q12, h⟩ := ck_e h
          refine eg_World_book K ef_ErrataRow_62 q12 d_ErrataRow_look_48 ?_
          obtain ⟨o13, e13, h⟩ := bo_e h
          refine j_eqq e13 ?_
          obtain ⟨q14, h⟩ := ck_e h
          refine eg_Book_letters K ef_ErrataRow_123 q14 d_ErrataRow_look_51 ?_
          refine j_if_ne (tgt := 60) K d_ErrataRow_look_54 (by decide) (fun q => ?_) (fun q => ?_)
          · have h := if_f h q
            refine j_iconst (v := (-1)) K d_ErrataRow_look_60 (by decide) ?_
            refine j_istore (lv' := [(4, .int (-1)), (3, .int r8), (0, .ref this), (1, .int a1), (2, .int a2)]) K d_ErrataRow_look_61 (by decide) rfl ?_
            refine j_bipush (v := 8) K d_ErrataRow_look_63 (by decide) ?_
            refine j_istore (lv' := [(5, .int 8), (4, .int (-1)), (3, .int r8), (0, .ref this), (1, .int a1), (2, .int a2)]) K d_ErrataRow_look_65 (by decide) rfl ?_
            refine j_iconst (v := 0) K d_ErrataRow_look_67 (by decide) ?_
            refine j_istore (lv' := [(6, .int 0), (5, .int 8), (4, .int (-1)), (3, .int r8), (0, .ref this), (1, .int a1), (2, .int a2)]) K d_ErrataRow_look_68 (by decide) rfl ?_
            refine j_sub [4, 6, 3, 2, 1, 0] rfl ?_
            exact t_ErrataRow_look_70 K hN hr hlk N ρ N this a2 r8 (-1) 8 0 κ8 h
          · have h := if_t h q
            refine j_bipush (v := (-2)) K d_ErrataRow_look_57 (by decide) ?_
            exact eret_i K h hr hlk d_ErrataRow_look_59
      · have h := if_t h q
        refine j_iconst (v := (-1)) K d_ErrataRow_look_32 (by decide) ?_
        exact eret_i K h hr hlk d_ErrataRow_look_33
def b_RowSearch_tryFrom_47 (N : Nat) (R_RowSearch_tryFrom : Nat → Int32 → Int32 → Cz → Option (Cz)) : Nat → Nat → Int32 → Int32 → Nat → Int32 → Int32 → Cz → Option (Cz)
  | 0, _, _, _, _, _, _, _ => none
  | n + 1, x0, x1, x2, x3, x5, x6, κ => some κ
set_option maxHeartbeats 4000000 in
set_option maxRecDepth 100000 in
theorem t_RowSearch_tryFrom_47 {p : Program} {l : Launch} {e : Env} {s : State} {m : MethodId} {args : Array Value} {below : List Frame} {meth : Method} {c : Code} {D : va_G} {θ : Tc} {A : Nat → Prop} {d : Nat} (K : KE p s m args c c_RowSearch_tryFrom 7 "ErrataRow$RowSearch" y_RowSearch_tryFrom none D θ A) (hN : NX s) (hr : meth.sig.returnType = none) (hlk : meth.locks = false) (N : Nat) (ρ : Cz) (R_RowSearch_tryFrom : Nat → Int32 → Int32 → Cz → Option (Cz)) (hR_RowSearch_tryFrom : ∀ (z0 : Nat) (z1 : Int32) (z2 : Int32) (κ : Cz) (ρ : Cz), R_RowSearch_tryFrom z0 z1 z2 κ = some ρ → CEv l D θ y_RowSearch_tryFrom c_RowSearch_tryFrom 7 none (4 + d) 0 0 [.ref z0, .int z1, .int z2] κ ρ) : ∀ (n : Nat) (x0 : Nat) (x1 : Int32) (x2 : Int32) (x3 : Nat) (x5 : Int32) (x6 : Int32) (κ : Cz), b_RowSearch_tryFrom_47 N R_RowSearch_tryFrom n x0 x1 x2 x3 x5 x6 κ = some ρ → JE p l e (rmA (4 + (d + 1)) 0 0) s m args below meth c D θ A 7 0 0 (QEv below args s D θ A 0 0 ρ) κ [(0, .ref x0), (1, .int x1), (2, .int x2), (3, .ref x3), (4, .null), (5, .int x5), (6, .int x6)] [] 47 := by
  intro n
  induction n with
  | zero =>
    intro x0 x1 x2 x3 x5 x6 κ h
    exact absurd h (by simp [b_RowSearch_tryFrom_47])
  | succ n ih =>
    intro x0 x1 x2 x3 x5 x6 κ h
    rw [b_RowSearch_tryFrom_47] at h
    refine e_aloadN K 4 d_RowSearch_tryFrom_47 rfl ?_
    refine e_ifnullN (tgt := 114) K d_RowSearch_tryFrom_49 (by decide) ?_
    exact eret_v K h hr hlk d_RowSearch_tryFrom_114
def b_RowSearch_tryFrom_75 (N : Nat) (R_RowSearch_tryFrom : Nat → Int32 → Int32 → Cz → Option (Cz)) (k47_1 : Nat → Int32 → Int32 → Nat → Nat → Int32 → Int32 → Cz → Option (Cz)) (x0 : Nat) (x1 : Int32) (x2 : Int32) (x3 : Nat) (x4 : Nat) (x5 : Int32) (x6 : Int32) (κ : Cz) : Option (Cz) := ck (isK κ x0 5) (bo (fr κ x0 2) (fun o18 => ck (isK κ o18 20) (ck (inb x1 (ln κ o18)) (lt (sai o18 (upd (ai κ o18) x1.toNatClampNeg x6) κ) (fun κ21 => ck (isK κ21 x4 8) (bo (p_State_copyFrom N x4 x3 κ21) (fun κ22 => ck (isK κ22 x0 5) (bo (fr κ22 x0 0) (fun o25 => ck (isK κ22 o25 4) (bo (p_Press_printWith N o25 x4 x6 κ22) (fun κ26 => bo (R_RowSearch_tryFrom x0 (x1 + 1) x2 κ26) (fun κ28 => lt (x6 + 1) (fun v29 => k47_1 x0 x1 x2 x3 x4 x5 v29 κ28)))))))))))))
set_option maxHeartbeats 4000000 in
set_option maxRecDepth 100000 in
theorem t_RowSearch_tryFrom_75 {p : Program} {l : Launch} {e : Env} {s : State} {m : MethodId} {args : Array Value} {below : List Frame} {meth : Method} {c : Code} {D : va_G} {θ : Tc} {A : Nat → Prop} {d : Nat} (K : KE p s m args c c_RowSearch_tryFrom 7 "ErrataRow$RowSearch" y_RowSearch_tryFrom none D θ A) (hN : NX s) (hr : meth.sig.returnType = none) (hlk : meth.locks = false) (N : Nat) (ρ : Cz) (R_RowSearch_tryFrom : Nat → Int32 → Int32 → Cz → Option (Cz)) (hR_RowSearch_tryFrom : ∀ (z0 : Nat) (z1 : Int32) (z2 : Int32) (κ : Cz) (ρ : Cz), R_RowSearch_tryFrom z0 z1 z2 κ = some ρ → CEv l D θ y_RowSearch_tryFrom c_RowSearch_tryFrom 7 none (4 + d) 0 0 [.ref z0, .int z1, .int z2] κ ρ) (k47_1 : Nat → Int32 → Int32 → Nat → Nat → Int32 → Int32 → Cz → Option (Cz)) (hk47_1 : ∀ (x0 : Nat) (x1 : Int32) (x2 : Int32) (x3 : Nat) (x4 : Nat) (x5 : Int32) (x6 : Int32) (κ : Cz), k47_1 x0 x1 x2 x3 x4 x5 x6 κ = some ρ → JE p l e (rmA (4 + (d + 1)) 0 0) s m args below meth c D θ A 7 0 0 (QEv below args s D θ A 0 0 ρ) κ [(0, .ref x0), (1, .int x1), (2, .int x2), (3, .ref x3), (4, .ref x4), (5, .int x5), (6, .int x6)] [] 47) (x0 : Nat) (x1 : Int32) (x2 : Int32) (x3 : Nat) (x4 : Nat) (x5 : Int32) (x6 : Int32) (κ : Cz) (h : b_RowSearch_tryFrom_75 N R_RowSearch_tryFrom k47_1 x0 x1 x2 x3 x4 x5 x6 κ = some ρ) : JE p l e (rmA (4 + (d + 1)) 0 0) s m args below meth c D θ A 7 0 0 (QEv below args s D θ A 0 0 ρ) κ [(0, .ref x0), (1, .int x1), (2, .int x2), (3, .ref x3), (4, .ref x4), (5, .int x5), (6, .int x6)] [] 75 := by
  unfold b_RowSearch_tryFrom_75 at h
  refine j_aload_n K 0 d_RowSearch_tryFrom_75 rfl rfl ?_
  obtain ⟨q17, h⟩ := ck_e h
  refine eg_RowSearch_tried K ef_RowSearch_17 q17 d_RowSearch_tryFrom_76 ?_
  obtain ⟨o18, e18, h⟩ := bo_e h
  refine j_eqq e18 ?_
  refine j_iload_n K 1 d_RowSearch_tryFrom_79 rfl rfl ?_
  refine j_iload K 6 d_RowSearch_tryFrom_80 rfl ?_
  obtain ⟨q19, h⟩ := ck_e h
  obtain ⟨q20, h⟩ := ck_e h
  obtain ⟨κ21, e21, h⟩ := lt_e h
  refine e_iast K q19 (inb_e q20) d_RowSearch_tryFrom_82 e21 ?_
  refine j_aload K 4 d_RowSearch_tryFrom_83 rfl ?_
  refine j_aload_n K 3 d_RowSearch_tryFrom_85 rfl rfl ?_
  obtain ⟨q23, h⟩ := ck_e h
  obtain ⟨κ22, e22, h⟩ := bo_e h
  refine ecallV_v K hN (c_State_copyFrom_ok l D θ N x4 x3 κ21 _ e22) eG_RowSearch_33 eh_State_copyFrom (by decide) (rmA_ok (by omega) (by decide)) rfl q23 (by decide) rfl (st := []) (Nat.le_of_ble_eq_true rfl) rfl d_RowSearch_tryFrom_86 ⟨Nat.le_of_ble_eq_true rfl, Nat.le_of_ble_eq_true rfl⟩ ?_
  refine j_aload_n K 0 d_RowSearch_tryFrom_89 rfl rfl ?_
  obtain ⟨q24, h⟩ := ck_e h
  refine eg_RowSearch_press K ef_RowSearch_24 q24 d_RowSearch_tryFrom_90 ?_
  obtain ⟨o25, e25, h⟩ := bo_e h
  refine j_eqq e25 ?_
  refine j_aload K 4 d_RowSearch_tryFrom_93 rfl ?_
  refine j_iload K 6 d_RowSearch_tryFrom_95 rfl ?_
  obtain ⟨q27, h⟩ := ck_e h
  obtain ⟨κ26, e26, h⟩ := bo_e h
  refine ecallV_v K hN (c_Press_printWith_ok l D θ N o25 x4 x6 κ22 _ e26) eG_RowSearch_61 eh_Press_printWith (by decide) (rmA_ok (by omega) (by decide)) rfl q27 (by decide) rfl (st := []) (Nat.le_of_ble_eq_true rfl) rfl d_RowSearch_tryFrom_97 ⟨Nat.le_of_ble_eq_true rfl, Nat.le_of_ble_eq_true rfl⟩ ?_
  refine j_aload_n K 0 d_RowSearch_tryFrom_100 rfl rfl ?_
  refine j_iload_n K 1 d_RowSearch_tryFrom_101 rfl rfl ?_
  refine j_iconst (v := 1) K d_RowSearch_tryFrom_102 (by decide) ?_
  refine j_iadd K d_RowSearch_tryFrom_103 ?_
  refine j_iload_n K 2 d_RowSearch_tryFrom_104 rfl rfl ?_
  obtain ⟨κ28, e28, h⟩ := bo_e h
  refine ecallS_v K hN (hR_RowSearch_tryFrom x0 (x1 + 1) x2 κ26 _ e28) eG_RowSearch_43 eh_RowSearch_tryFrom (by decide) (rmA_ok (by omega) (by decide)) rfl (st := []) (Nat.le_of_ble_eq_true rfl) rfl d_RowSearch_tryFrom_105 ⟨Nat.le_of_ble_eq_true rfl, Nat.le_of_ble_eq_true rfl⟩ ?_
  obtain ⟨v29, e29, h⟩ := lt_e h
  refine j_iinc (k := 6) (v := v29) (lv' := [(6, .int v29), (0, .ref x0), (1, .int x1), (2, .int x2), (3, .ref x3), (4, .ref x4), (5, .int x5)]) K d_RowSearch_tryFrom_108 rfl (by rw [e29]; rfl) (by decide) rfl ?_
  refine j_goto (tgt := 47) K d_RowSearch_tryFrom_111 (by decide) ?_
  refine j_sub [1, 2, 3, 4, 5, 6, 0] rfl ?_
  exact hk47_1 x0 x1 x2 x3 x4 x5 v29 κ28 h
def b_RowSearch_tryFrom_47_1 (N : Nat) (R_RowSearch_tryFrom : Nat → Int32 → Int32 → Cz → Option (Cz)) : Nat → Nat → Int32 → Int32 → Nat → Nat → Int32 → Int32 → Cz → Option (Cz)
  | 0, _, _, _, _, _, _, _, _ => none
  | n + 1, x0, x1, x2, x3, x4, x5, x6, κ => if 10 ≤ x6 then some κ else if x6 = (-1) then b_RowSearch_tryFrom_75 N R_RowSearch_tryFrom (b_RowSearch_tryFrom_47_1 N R_RowSearch_tryFrom n) x0 x1 x2 x3 x4 x5 x6 κ else bd (p_ErrataRow_hasBit N x5 x6 κ) (fun r30 κ30 => if r30 = 0 then lt (x6 + 1) (fun v31 => b_RowSearch_tryFrom_47_1 N R_RowSearch_tryFrom n x0 x1 x2 x3 x4 x5 v31 κ30) else b_RowSearch_tryFrom_75 N R_RowSearch_tryFrom (b_RowSearch_tryFrom_47_1 N R_RowSearch_tryFrom n) x0 x1 x2 x3 x4 x5 x6 κ30)
set_option maxHeartbeats 4000000 in
set_option maxRecDepth 100000 in
theorem t_RowSearch_tryFrom_47_1 {p : Program} {l : Launch} {e : Env} {s : State} {m : MethodId} {args : Array Value} {below : List Frame} {meth : Method} {c : Code} {D : va_G} {θ : Tc} {A : Nat → Prop} {d : Nat} (K : KE p s m args c c_RowSearch_tryFrom 7 "ErrataRow$RowSearch" y_RowSearch_tryFrom none D θ A) (hN : NX s) (hr : meth.sig.returnType = none) (hlk : meth.locks = false) (N : Nat) (ρ : Cz) (R_RowSearch_tryFrom : Nat → Int32 → Int32 → Cz → Option (Cz)) (hR_RowSearch_tryFrom : ∀ (z0 : Nat) (z1 : Int32) (z2 : Int32) (κ : Cz) (ρ : Cz), R_RowSearch_tryFrom z0 z1 z2 κ = some ρ → CEv l D θ y_RowSearch_tryFrom c_RowSearch_tryFrom 7 none (4 + d) 0 0 [.ref z0, .int z1, .int z2] κ ρ) : ∀ (n : Nat) (x0 : Nat) (x1 : Int32) (x2 : Int32) (x3 : Nat) (x4 : Nat) (x5 : Int32) (x6 : Int32) (κ : Cz), b_RowSearch_tryFrom_47_1 N R_RowSearch_tryFrom n x0 x1 x2 x3 x4 x5 x6 κ = some ρ → JE p l e (rmA (4 + (d + 1)) 0 0) s m args below meth c D θ A 7 0 0 (QEv below args s D θ A 0 0 ρ) κ [(0, .ref x0), (1, .int x1), (2, .int x2), (3, .ref x3), (4, .ref x4), (5, .int x5), (6, .int x6)] [] 47 := by
  intro n
  induction n with
  | zero =>
    intro x0 x1 x2 x3 x4 x5 x6 κ h
    exact absurd h (by simp [b_RowSearch_tryFrom_47_1])
  | succ n ih =>
    intro x0 x1 x2 x3 x4 x5 x6 κ h
    rw [b_RowSearch_tryFrom_47_1] at h
    refine j_aload K 4 d_RowSearch_tryFrom_47 rfl ?_
    refine e_ifnull K d_RowSearch_tryFrom_49 ?_
    refine j_iload K 6 d_RowSearch_tryFrom_52 rfl ?_
    refine j_bipush (v := 10) K d_RowSearch_tryFrom_54 (by decide) ?_
    refine j_icmp_ge (tgt := 114) K d_RowSearch_tryFrom_56 (by decide) (fun q => ?_) (fun q => ?_)
    · have h := if_t h q
      exact eret_v K h hr hlk d_RowSearch_tryFrom_114
    · have h := if_f h q
      refine j_iload K 6 d_RowSearch_tryFrom_59 rfl ?_
      refine j_iconst (v := (-1)) K d_RowSearch_tryFrom_61 (by decide) ?_
      refine j_icmp_eq (tgt := 75) K d_RowSearch_tryFrom_62 (by decide) (fun q => ?_) (fun q => ?_)
      · have h := if_t h q
        exact t_RowSearch_tryFrom_75 K hN hr hlk N ρ R_RowSearch_tryFrom hR_RowSearch_tryFrom (b_RowSearch_tryFrom_47_1 N R_RowSearch_tryFrom n) ih x0 x1 x2 x3 x4 x5 x6 κ h
      · have h := if_f h q
        refine j_iload K 5 d_RowSearch_tryFrom_65 rfl ?_
        refine j_iload K 6 d_RowSearch_tryFrom_67 rfl ?_
        obtain ⟨r30, κ30, e30, h⟩ := bd_e h
        refine ecallN_i K hN (c_ErrataRow_hasBit_ok l D θ N x5 x6 κ _ e30) ec_ErrataRow_hasBit ei_ErrataRow es_ErrataRow_hasBit (NX_RowSearch_57 hN) eh_ErrataRow_hasBit (by decide) (rmA_ok (by omega) (by decide)) rfl (st := []) (Nat.le_of_ble_eq_true rfl) rfl d_RowSearch_tryFrom_69 ⟨Nat.le_of_ble_eq_true rfl, Nat.le_of_ble_eq_true rfl⟩ ?_
        refine j_if_eq (tgt := 108) K d_RowSearch_tryFrom_72 (by decide) (fun q => ?_) (fun q => ?_)
        · have h := if_t h q
          obtain ⟨v31, e31, h⟩ := lt_e h
          refine j_iinc (k := 6) (v := v31) (lv' := [(6, .int v31), (0, .ref x0), (1, .int x1), (2, .int x2), (3, .ref x3), (4, .ref x4), (5, .int x5)]) K d_RowSearch_tryFrom_108 rfl (by rw [e31]; rfl) (by decide) rfl ?_
          refine j_goto (tgt := 47) K d_RowSearch_tryFrom_111 (by decide) ?_
          refine j_sub [1, 2, 3, 4, 5, 6, 0] rfl ?_
          exact ih x0 x1 x2 x3 x4 x5 v31 κ30 h
        · have h := if_f h q
          exact t_RowSearch_tryFrom_75 K hN hr hlk N ρ R_RowSearch_tryFrom hR_RowSearch_tryFrom (b_RowSearch_tryFrom_47_1 N R_RowSearch_tryFrom n) ih x0 x1 x2 x3 x4 x5 x6 κ30 h
def q_RowSearch_tryFrom (N : Nat) (R_RowSearch_tryFrom : Nat → Int32 → Int32 → Cz → Option (Cz)) (a1 : Nat) (a2 : Int32) (a3 : Int32) (κ : Cz) : Option (Cz) := ck (isK κ a1 5) (bo (fr κ a1 1) (fun o2 => ck (isK κ o2 23) (ck (inb a2 (ln κ o2)) (oc (aq κ o2 a2.toNatClampNeg) (some κ) (fun o5 => if a2 < a3 then bo (fr κ a1 1) (fun o6 => lt (a2 + 1) (fun v7 => ck (isK κ o6 23) (ck (inb v7 (ln κ o6)) (oc (aq κ o6 v7.toNatClampNeg) (bo (fr κ a1 0) (fun o11 => ck (isK κ o11 4) (bd (p_Press_looseOf N o11 o5 κ) (fun r12 κ12 => b_RowSearch_tryFrom_47 N R_RowSearch_tryFrom N a1 a2 a3 o5 r12 (-1) κ12)))) (fun o10 => bo (fr κ a1 0) (fun o14 => ck (isK κ o14 4) (bd (p_Press_looseOf N o14 o5 κ) (fun r15 κ15 => b_RowSearch_tryFrom_47_1 N R_RowSearch_tryFrom N a1 a2 a3 o5 o10 r15 (-1) κ15)))))))) else bo (p_RowSearch_keepIfFewer N a1 o5 a3 κ) (fun κ32 => some κ32))))))
set_option maxHeartbeats 4000000 in
set_option maxRecDepth 100000 in
theorem c_RowSearch_tryFrom_rec (l : Launch) (D : va_G) (θ : Tc) (N : Nat) (d : Nat) (R_RowSearch_tryFrom : Nat → Int32 → Int32 → Cz → Option (Cz)) (hR_RowSearch_tryFrom : ∀ (z0 : Nat) (z1 : Int32) (z2 : Int32) (κ : Cz) (ρ : Cz), R_RowSearch_tryFrom z0 z1 z2 κ = some ρ → CEv l D θ y_RowSearch_tryFrom c_RowSearch_tryFrom 7 none (4 + d) 0 0 [.ref z0, .int z1, .int z2] κ ρ) (a1 : Nat) (a2 : Int32) (a3 : Int32) (κ : Cz) (ρ : Cz) (h : q_RowSearch_tryFrom N R_RowSearch_tryFrom a1 a2 a3 κ = some ρ) : CEv l D θ y_RowSearch_tryFrom c_RowSearch_tryFrom 7 none (4 + (d + 1)) 0 0 [.ref a1, .int a2, .int a3] κ ρ := by
  intro sz
  refine e_met l [.ref a1, .int a2, .int a3] (by decide +kernel) (Nat.le_of_ble_eq_true rfl) ?_
  intro p e s m args below meth c K hN hr hlk hnm hs
  generalize va_A (wE θ κ) sz = A at K ⊢
  have K : KE p s m args c c_RowSearch_tryFrom 7 "ErrataRow$RowSearch" y_RowSearch_tryFrom none D θ A := K
  show JE p l e (rmA (4 + (d + 1)) 0 0) s m args below meth c D θ A 7 0 0 (QEv below args s D θ A 0 0 ρ) κ [(0, .ref a1), (1, .int a2), (2, .int a3)] [] 0
  unfold q_RowSearch_tryFrom at h
  refine j_aload_n K 0 d_RowSearch_tryFrom_0 rfl rfl ?_
  obtain ⟨q1, h⟩ := ck_e h
  refine eg_RowSearch_states K ef_RowSearch_11 q1 d_RowSearch_tryFrom_1 ?_
  obtain ⟨o2, e2, h⟩ := bo_e h
  refine j_eqq e2 ?_
  refine j_iload_n K 1 d_RowSearch_tryFrom_4 rfl rfl ?_
  obtain ⟨q3, h⟩ := ck_e h
  obtain ⟨q4, h⟩ := ck_e h
  refine e_ald_State K q3 (inb_e q4) d_RowSearch_tryFrom_5 ?_
  rcases oc_e h with ⟨e5, h⟩ | ⟨o5, e5, h⟩
  · refine j_eqn e5 ?_
    refine e_astore_nN (lv' := [(3, .null), (0, .ref a1), (1, .int a2), (2, .int a3)]) K d_RowSearch_tryFrom_6 rfl (by decide) rfl ?_
    refine e_aload_nN K 0 d_RowSearch_tryFrom_7 rfl rfl ?_
    refine e_ifnonnullN K d_RowSearch_tryFrom_8 ?_
    exact eret_v K h hr hlk d_RowSearch_tryFrom_11
  · refine j_eqq e5 ?_
    refine j_astore_n (lv' := [(3, .ref o5), (0, .ref a1), (1, .int a2), (2, .int a3)]) K d_RowSearch_tryFrom_6 rfl (by decide) rfl ?_
    refine j_aload_n K 0 d_RowSearch_tryFrom_7 rfl rfl ?_
    refine e_ifnonnull (tgt := 12) K d_RowSearch_tryFrom_8 (by decide) ?_
    refine j_iload_n K 2 d_RowSearch_tryFrom_12 rfl rfl ?_
    refine j_iload_n K 3 d_RowSearch_tryFrom_13 rfl rfl ?_
    refine j_icmp_lt (tgt := 24) K d_RowSearch_tryFrom_14 (by decide) (fun q => ?_) (fun q => ?_)
    · have h := if_t h q
      refine j_aload_n K 1 d_RowSearch_tryFrom_24 rfl rfl ?_
      refine eg_RowSearch_states K ef_RowSearch_11 q1 d_RowSearch_tryFrom_25 ?_
      obtain ⟨o6, e6, h⟩ := bo_e h
      refine j_eqq e6 ?_
      refine j_iload_n K 2 d_RowSearch_tryFrom_28 rfl rfl ?_
      refine j_iconst (v := 1) K d_RowSearch_tryFrom_29 (by decide) ?_
      refine j_iadd K d_RowSearch_tryFrom_30 ?_
      obtain ⟨v7, e7, h⟩ := lt_e h
      refine j_eqi e7 ?_
      obtain ⟨q8, h⟩ := ck_e h
      obtain ⟨q9, h⟩ := ck_e h
      refine e_ald_State K q8 (inb_e q9) d_RowSearch_tryFrom_31 ?_
      rcases oc_e h with ⟨e10, h⟩ | ⟨o10, e10, h⟩
      · refine j_eqn e10 ?_
        refine e_astoreN (lv' := [(4, .null), (3, .ref o5), (0, .ref a1), (1, .int a2), (2, .int a3)]) K d_RowSearch_tryFrom_32 (by decide) rfl ?_
        refine j_aload_n K 2 d_RowSearch_tryFrom_34 rfl rfl ?_
        refine eg_RowSearch_press K ef_RowSearch_24 q1 d_RowSearch_tryFrom_35 ?_
        obtain ⟨o11, e11, h⟩ := bo_e h
        refine j_eqq e11 ?_
        refine j_aload_n K 1 d_RowSearch_tryFrom_38 rfl rfl ?_
        obtain ⟨q13, h⟩ := ck_e h
        obtain ⟨r12, κ12, e12, h⟩ := bd_e h
        refine ecallV_i K hN (c_Press_looseOf_ok l D θ N o11 o5 κ _ e12) eG_RowSearch_51 eh_Press_looseOf (by decide) (rmA_ok (by omega) (by decide)) rfl q13 (by decide) rfl (st := []) (Nat.le_of_ble_eq_true rfl) rfl d_RowSearch_tryFrom_39 ⟨Nat.le_of_ble_eq_true rfl, Nat.le_of_ble_eq_true rfl⟩ ?_
        refine j_istore (lv' := [(5, .int r12), (4, .null), (3, .ref o5), (0, .ref a1), (1, .int a2), (2, .int a3)]) K d_RowSearch_tryFrom_42 (by decide) rfl ?_
        refine j_iconst (v := (-1)) K d_RowSearch_tryFrom_44 (by decide) ?_
        refine j_istore (lv' := [(6, .int (-1)), (5, .int r12), (4, .null), (3, .ref o5), (0, .ref a1), (1, .int a2), (2, .int a3)]) K d_RowSearch_tryFrom_45 (by decide) rfl ?_
        refine j_sub [4, 5, 6, 3, 2, 1, 0] rfl ?_
        exact t_RowSearch_tryFrom_47 K hN hr hlk N ρ R_RowSearch_tryFrom hR_RowSearch_tryFrom N a1 a2 a3 o5 r12 (-1) κ12 h
      · refine j_eqq e10 ?_
        refine j_astore (lv' := [(4, .ref o10), (3, .ref o5), (0, .ref a1), (1, .int a2), (2, .int a3)]) K d_RowSearch_tryFrom_32 (by decide) rfl ?_
        refine j_aload_n K 2 d_RowSearch_tryFrom_34 rfl rfl ?_
        refine eg_RowSearch_press K ef_RowSearch_24 q1 d_RowSearch_tryFrom_35 ?_
        obtain ⟨o14, e14, h⟩ := bo_e h
        refine j_eqq e14 ?_
        refine j_aload_n K 1 d_RowSearch_tryFrom_38 rfl rfl ?_
        obtain ⟨q16, h⟩ := ck_e h
        obtain ⟨r15, κ15, e15, h⟩ := bd_e h
        refine ecallV_i K hN (c_Press_looseOf_ok l D θ N o14 o5 κ _ e15) eG_RowSearch_51 eh_Press_looseOf (by decide) (rmA_ok (by omega) (by decide)) rfl q16 (by decide) rfl (st := []) (Nat.le_of_ble_eq_true rfl) rfl d_RowSearch_tryFrom_39 ⟨Nat.le_of_ble_eq_true rfl, Nat.le_of_ble_eq_true rfl⟩ ?_
        refine j_istore (lv' := [(5, .int r15), (4, .ref o10), (3, .ref o5), (0, .ref a1), (1, .int a2), (2, .int a3)]) K d_RowSearch_tryFrom_42 (by decide) rfl ?_
        refine j_iconst (v := (-1)) K d_RowSearch_tryFrom_44 (by decide) ?_
        refine j_istore (lv' := [(6, .int (-1)), (5, .int r15), (4, .ref o10), (3, .ref o5), (0, .ref a1), (1, .int a2), (2, .int a3)]) K d_RowSearch_tryFrom_45 (by decide) rfl ?_
        refine j_sub [4, 5, 6, 3, 2, 1, 0] rfl ?_
        exact t_RowSearch_tryFrom_47_1 K hN hr hlk N ρ R_RowSearch_tryFrom hR_RowSearch_tryFrom N a1 a2 a3 o5 o10 r15 (-1) κ15 h
    · have h := if_f h q
      refine j_aload_n K 1 d_RowSearch_tryFrom_17 rfl rfl ?_
      refine j_aload_n K 0 d_RowSearch_tryFrom_18 rfl rfl ?_
      refine j_iload_n K 3 d_RowSearch_tryFrom_19 rfl rfl ?_
      obtain ⟨κ32, e32, h⟩ := bo_e h
      refine ecallV_v K hN (c_RowSearch_keepIfFewer_ok l D θ N a1 o5 a3 κ _ e32) eG_RowSearch_47 eh_RowSearch_keepIfFewer (by decide) (rmA_ok (by omega) (by decide)) rfl q1 (by decide) rfl (st := []) (Nat.le_of_ble_eq_true rfl) rfl d_RowSearch_tryFrom_20 ⟨Nat.le_of_ble_eq_true rfl, Nat.le_of_ble_eq_true rfl⟩ ?_
      exact eret_v K h hr hlk d_RowSearch_tryFrom_23
def r_RowSearch_tryFrom (N : Nat) : Nat → (Nat → Int32 → Int32 → Cz → Option (Cz))
  | 0 => (fun _ _ _ _ => none)
  | d + 1 => (q_RowSearch_tryFrom N (r_RowSearch_tryFrom N d))
theorem c_r_RowSearch_tryFrom (l : Launch) (D : va_G) (θ : Tc) (N : Nat) : ∀ d : Nat, (∀ (z0 : Nat) (z1 : Int32) (z2 : Int32) (κ : Cz) (ρ : Cz), (r_RowSearch_tryFrom N d) z0 z1 z2 κ = some ρ → CEv l D θ y_RowSearch_tryFrom c_RowSearch_tryFrom 7 none (4 + d) 0 0 [.ref z0, .int z1, .int z2] κ ρ) := by
  intro d
  induction d with
  | zero => exact fun _ _ _ _ _ h => absurd h (by simp [r_RowSearch_tryFrom])
  | succ d ih => exact fun z0 z1 z2 κ ρ h => c_RowSearch_tryFrom_rec l D θ N d (r_RowSearch_tryFrom N d) ih z0 z1 z2 κ ρ h
def p_RowSearch_tryFrom (N : Nat) (z0 : Nat) (z1 : Int32) (z2 : Int32) (κ : Cz) : Option (Cz) := (r_RowSearch_tryFrom N 8) z0 z1 z2 κ
theorem c_RowSearch_tryFrom_ok (l : Launch) (D : va_G) (θ : Tc) (N : Nat) (z0 : Nat) (z1 : Int32) (z2 : Int32) (κ : Cz) (ρ : Cz) (h : p_RowSearch_tryFrom N z0 z1 z2 κ = some ρ) : CEv l D θ y_RowSearch_tryFrom c_RowSearch_tryFrom 7 none 12 0 0 [.ref z0, .int z1, .int z2] κ ρ := (c_r_RowSearch_tryFrom l D θ N 8) z0 z1 z2 κ ρ h
def p_RowSearch_search (N : Nat) (this : Nat) (a1 : Nat) (a2 : Int32) (κ : Cz) : Option (Cz) := ck (isK κ this 5) (lt (sfi this 4 11 κ) (fun κ2 => bo (fr κ2 this 1) (fun o3 => ck (isK κ2 o3 23) (ck (inb (0 : Int32) (ln κ2 o3)) (oc (aq κ2 o3 (0 : Int32).toNatClampNeg) (some κ2) (fun o6 => ck (isK κ2 o6 8) (bo (p_State_copyFrom N o6 a1 κ2) (fun κ7 => lt (if 4 < a2 then 4 else a2) (fun v9 => bo (p_RowSearch_tryFrom N this 0 v9 κ7) (fun κ10 => some κ10))))))))))
set_option maxHeartbeats 4000000 in
set_option maxRecDepth 100000 in
theorem c_RowSearch_search_ok (l : Launch) (D : va_G) (θ : Tc) (N : Nat) (this : Nat) (a1 : Nat) (a2 : Int32) (κ : Cz) (ρ : Cz) (h : p_RowSearch_search N this a1 a2 κ = some ρ) : CEv l D θ y_RowSearch_search c_RowSearch_search 4 none 13 0 0 [.ref this, .ref a1, .int a2] κ ρ := by
  intro sz
  refine e_met l [.ref this, .ref a1, .int a2] (by decide +kernel) (Nat.le_of_ble_eq_true rfl) ?_
  intro p e s m args below meth c K hN hr hlk hnm hs
  generalize va_A (wE θ κ) sz = A at K ⊢
  have K : KE p s m args c c_RowSearch_search 4 "ErrataRow$RowSearch" y_RowSearch_search none D θ A := K
  show JE p l e (rmA 13 0 0) s m args below meth c D θ A 4 0 0 (QEv below args s D θ A 0 0 ρ) κ [(0, .ref this), (1, .ref a1), (2, .int a2)] [] 0
  unfold p_RowSearch_search at h
  refine j_aload_n K 0 d_RowSearch_search_0 rfl rfl ?_
  refine j_bipush (v := 11) K d_RowSearch_search_1 (by decide) ?_
  obtain ⟨q1, h⟩ := ck_e h
  obtain ⟨κ2, e2, h⟩ := lt_e h
  refine ep_RowSearch_fewest K ef_RowSearch_29 q1 d_RowSearch_search_3 e2 ?_
  refine j_aload_n K 0 d_RowSearch_search_6 rfl rfl ?_
  refine eg_RowSearch_states K ef_RowSearch_11 (isK_sfi e2 q1) d_RowSearch_search_7 ?_
  obtain ⟨o3, e3, h⟩ := bo_e h
  refine j_eqq e3 ?_
  refine j_iconst (v := 0) K d_RowSearch_search_10 (by decide) ?_
  obtain ⟨q4, h⟩ := ck_e h
  obtain ⟨q5, h⟩ := ck_e h
  refine e_ald_State K q4 (inb_e q5) d_RowSearch_search_11 ?_
  rcases oc_e h with ⟨e6, h⟩ | ⟨o6, e6, h⟩
  · refine j_eqn e6 ?_
    refine e_astore_nN (lv' := [(3, .null), (0, .ref this), (1, .ref a1), (2, .int a2)]) K d_RowSearch_search_12 rfl (by decide) rfl ?_
    refine e_aload_nN K 0 d_RowSearch_search_13 rfl rfl ?_
    refine e_ifnullN (tgt := 32) K d_RowSearch_search_14 (by decide) ?_
    exact eret_v K h hr hlk d_RowSearch_search_32
  · refine j_eqq e6 ?_
    refine j_astore_n (lv' := [(3, .ref o6), (0, .ref this), (1, .ref a1), (2, .int a2)]) K d_RowSearch_search_12 rfl (by decide) rfl ?_
    refine j_aload_n K 0 d_RowSearch_search_13 rfl rfl ?_
    refine e_ifnull K d_RowSearch_search_14 ?_
    refine j_aload_n K 0 d_RowSearch_search_17 rfl rfl ?_
    refine j_aload_n K 2 d_RowSearch_search_18 rfl rfl ?_
    obtain ⟨q8, h⟩ := ck_e h
    obtain ⟨κ7, e7, h⟩ := bo_e h
    refine ecallV_v K hN (c_State_copyFrom_ok l D θ N o6 a1 κ2 _ e7) eG_RowSearch_33 eh_State_copyFrom (by decide) (rmA_ok (by decide) (by decide)) rfl q8 (by decide) rfl (st := []) (Nat.le_of_ble_eq_true rfl) rfl d_RowSearch_search_19 ⟨Nat.le_of_ble_eq_true rfl, Nat.le_of_ble_eq_true rfl⟩ ?_
    refine j_aload_n K 1 d_RowSearch_search_22 rfl rfl ?_
    refine j_iconst (v := 0) K d_RowSearch_search_23 (by decide) ?_
    refine j_iload_n K 3 d_RowSearch_search_24 rfl rfl ?_
    refine j_iconst (v := 4) K d_RowSearch_search_25 (by decide) ?_
    refine e_mmin K el_RowSearch_37 es_mmin ei_Math ec_mmin (by decide) (Nat.le_of_ble_eq_true rfl) (Nat.le_of_ble_eq_true rfl) (Nat.le_of_ble_eq_true rfl) d_RowSearch_search_26 ?_
    obtain ⟨v9, e9, h⟩ := lt_e h
    refine j_eqi e9 ?_
    obtain ⟨κ10, e10, h⟩ := bo_e h
    refine ecallS_v K hN (c_RowSearch_tryFrom_ok l D θ N this 0 v9 κ7 _ e10) eG_RowSearch_43 eh_RowSearch_tryFrom (by decide) (rmA_ok (by decide) (by decide)) rfl (st := []) (Nat.le_of_ble_eq_true rfl) rfl d_RowSearch_search_29 ⟨Nat.le_of_ble_eq_true rfl, Nat.le_of_ble_eq_true rfl⟩ ?_
    exact eret_v K h hr hlk d_RowSearch_search_32
def p_ErrataRow_row (N : Nat) (this : Nat) (a1 : Int32) (a2 : Int32) (κ : Cz) : Option (Int32 × Cz) := ck (isK κ this 11) (bo (fr κ this 7) (fun o2 => ck (isK κ o2 10) (bo (fr κ o2 0) (fun o4 => ck (isK κ o4 0) (if (fi κ o4 0) = 0 then some ((-3), κ) else bd (p_ErrataRow_within N a1 1 4 κ) (fun r6 κ6 => if r6 = 0 then some ((-3), κ6) else bd (p_ErrataRow_within N a2 0 4 κ6) (fun r7 κ7 => if r7 = 0 then some ((-3), κ7) else if a2 ≤ a1 then ck (isK κ7 this 11) (bo (p_ErrataRow_readyPress N this (-1) κ7) (fun κ8 => ck (isK κ8 this 11) (bo (fr κ8 this 11) (fun o11 => bo (fr κ8 this 7) (fun o12 => ck (isK κ8 o12 10) (bo (fr κ8 o12 1) (fun o14 => ck (isK κ8 o11 5) (bo (p_RowSearch_search N o11 o14 a1 κ8) (fun κ15 => if a2 = 0 then ck (isK κ15 this 11) (bo (fr κ15 this 11) (fun o25 => ck (isK κ15 o25 5) (some (fi κ15 o25 4, κ15)))) else ck (isK κ15 this 11) (bo (fr κ15 this 11) (fun o18 => ck (isK κ15 o18 5) (bo (fr κ15 o18 3) (fun o20 => lt (a2 - 1) (fun v21 => ck (isK κ15 o20 20) (ck (inb v21 (ln κ15 o20)) (some (ai κ15 o20 v21.toNatClampNeg, κ15))))))))))))))))) else some ((-2), κ7))))))))
set_option maxHeartbeats 4000000 in
set_option maxRecDepth 100000 in
theorem c_ErrataRow_row_ok (l : Launch) (D : va_G) (θ : Tc) (N : Nat) (this : Nat) (a1 : Int32) (a2 : Int32) (κ : Cz) (ρ : Int32 × Cz) (h : p_ErrataRow_row N this a1 a2 κ = some ρ) : CEi l D θ y_ErrataRow_row c_ErrataRow_row 3 (some .int) 14 0 0 [.ref this, .int a1, .int a2] κ ρ := by
  intro sz
  refine e_met l [.ref this, .int a1, .int a2] (by decide +kernel) (Nat.le_of_ble_eq_true rfl) ?_
  intro p e s m args below meth c K hN hr hlk hnm hs
  generalize va_A (wE θ κ) sz = A at K ⊢
  have K : KE p s m args c c_ErrataRow_row 3 "ErrataRow" y_ErrataRow_row (some .int) D θ A := K
  show JE p l e (rmA 14 0 0) s m args below meth c D θ A 3 0 0 (QEi below args s D θ A 0 0 ρ) κ [(0, .ref this), (1, .int a1), (2, .int a2)] [] 0
  unfold p_ErrataRow_row at h
  refine j_aload_n K 0 d_ErrataRow_row_0 rfl rfl ?_
  obtain ⟨q1, h⟩ := ck_e h
  refine eg_ErrataRow_world K ef_ErrataRow_45 q1 d_ErrataRow_row_1 ?_
  obtain ⟨o2, e2, h⟩ := bo_e h
  refine j_eqq e2 ?_
  obtain ⟨q3, h⟩ := ck_e h
  refine eg_World_book K ef_ErrataRow_62 q3 d_ErrataRow_row_4 ?_
  obtain ⟨o4, e4, h⟩ := bo_e h
  refine j_eqq e4 ?_
  obtain ⟨q5, h⟩ := ck_e h
  refine eg_Book_told K ef_ErrataRow_160 q5 d_ErrataRow_row_7 ?_
  refine j_if_eq (tgt := 31) K d_ErrataRow_row_10 (by decide) (fun q => ?_) (fun q => ?_)
  · have h := if_t h q
    refine j_bipush (v := (-3)) K d_ErrataRow_row_31 (by decide) ?_
    exact eret_i K h hr hlk d_ErrataRow_row_33
  · have h := if_f h q
    refine j_iload_n K 1 d_ErrataRow_row_13 rfl rfl ?_
    refine j_iconst (v := 1) K d_ErrataRow_row_14 (by decide) ?_
    refine j_iconst (v := 4) K d_ErrataRow_row_15 (by decide) ?_
    obtain ⟨r6, κ6, e6, h⟩ := bd_e h
    refine ecallS_i K hN (c_ErrataRow_within_ok l D θ N a1 1 4 κ _ e6) eG_ErrataRow_166 eh_ErrataRow_within (by decide) (rmA_ok (by decide) (by decide)) rfl (st := []) (Nat.le_of_ble_eq_true rfl) rfl d_ErrataRow_row_16 ⟨Nat.le_of_ble_eq_true rfl, Nat.le_of_ble_eq_true rfl⟩ ?_
    refine j_if_eq (tgt := 31) K d_ErrataRow_row_19 (by decide) (fun q => ?_) (fun q => ?_)
    · have h := if_t h q
      refine j_bipush (v := (-3)) K d_ErrataRow_row_31 (by decide) ?_
      exact eret_i K h hr hlk d_ErrataRow_row_33
    · have h := if_f h q
      refine j_iload_n K 2 d_ErrataRow_row_22 rfl rfl ?_
      refine j_iconst (v := 0) K d_ErrataRow_row_23 (by decide) ?_
      refine j_iconst (v := 4) K d_ErrataRow_row_24 (by decide) ?_
      obtain ⟨r7, κ7, e7, h⟩ := bd_e h
      refine ecallS_i K hN (c_ErrataRow_within_ok l D θ N a2 0 4 κ6 _ e7) eG_ErrataRow_166 eh_ErrataRow_within (by decide) (rmA_ok (by decide) (by decide)) rfl (st := []) (Nat.le_of_ble_eq_true rfl) rfl d_ErrataRow_row_25 ⟨Nat.le_of_ble_eq_true rfl, Nat.le_of_ble_eq_true rfl⟩ ?_
      refine j_if_ne (tgt := 34) K d_ErrataRow_row_28 (by decide) (fun q => ?_) (fun q => ?_)
      · have h := if_f h q
        refine j_iload_n K 2 d_ErrataRow_row_34 rfl rfl ?_
        refine j_iload_n K 1 d_ErrataRow_row_35 rfl rfl ?_
        refine j_icmp_le (tgt := 42) K d_ErrataRow_row_36 (by decide) (fun q => ?_) (fun q => ?_)
        · have h := if_t h q
          refine j_aload_n K 0 d_ErrataRow_row_42 rfl rfl ?_
          refine j_iconst (v := (-1)) K d_ErrataRow_row_43 (by decide) ?_
          obtain ⟨q9, h⟩ := ck_e h
          obtain ⟨κ8, e8, h⟩ := bo_e h
          refine ecallV_v K hN (c_ErrataRow_readyPress_ok l D θ N this (-1) κ7 _ e8) eG_ErrataRow_212 eh_ErrataRow_readyPress (by decide) (rmA_ok (by decide) (by decide)) rfl q9 (by decide) rfl (st := []) (Nat.le_of_ble_eq_true rfl) rfl d_ErrataRow_row_44 ⟨Nat.le_of_ble_eq_true rfl, Nat.le_of_ble_eq_true rfl⟩ ?_
          refine j_aload_n K 0 d_ErrataRow_row_47 rfl rfl ?_
          obtain ⟨q10, h⟩ := ck_e h
          refine eg_ErrataRow_rowSearch K ef_ErrataRow_78 q10 d_ErrataRow_row_48 ?_
          obtain ⟨o11, e11, h⟩ := bo_e h
          refine j_eqq e11 ?_
          refine j_aload_n K 0 d_ErrataRow_row_51 rfl rfl ?_
          refine eg_ErrataRow_world K ef_ErrataRow_45 q10 d_ErrataRow_row_52 ?_
          obtain ⟨o12, e12, h⟩ := bo_e h
          refine j_eqq e12 ?_
          obtain ⟨q13, h⟩ := ck_e h
          refine eg_World_now K ef_ErrataRow_145 q13 d_ErrataRow_row_55 ?_
          obtain ⟨o14, e14, h⟩ := bo_e h
          refine j_eqq e14 ?_
          refine j_iload_n K 1 d_ErrataRow_row_58 rfl rfl ?_
          obtain ⟨q16, h⟩ := ck_e h
          obtain ⟨κ15, e15, h⟩ := bo_e h
          refine ecallV_v K hN (c_RowSearch_search_ok l D θ N o11 o14 a1 κ8 _ e15) eG_ErrataRow_270 eh_RowSearch_search (by decide) (rmA_ok (by decide) (by decide)) rfl q16 (by decide) rfl (st := []) (Nat.le_of_ble_eq_true rfl) rfl d_ErrataRow_row_59 ⟨Nat.le_of_ble_eq_true rfl, Nat.le_of_ble_eq_true rfl⟩ ?_
          refine j_iload_n K 2 d_ErrataRow_row_62 rfl rfl ?_
          refine j_if_ne (tgt := 76) K d_ErrataRow_row_63 (by decide) (fun q => ?_) (fun q => ?_)
          · have h := if_f h q
            refine j_aload_n K 0 d_ErrataRow_row_76 rfl rfl ?_
            obtain ⟨q17, h⟩ := ck_e h
            refine eg_ErrataRow_rowSearch K ef_ErrataRow_78 q17 d_ErrataRow_row_77 ?_
            obtain ⟨o18, e18, h⟩ := bo_e h
            refine j_eqq e18 ?_
            obtain ⟨q19, h⟩ := ck_e h
            refine eg_RowSearch_best K ef_ErrataRow_277 q19 d_ErrataRow_row_80 ?_
            obtain ⟨o20, e20, h⟩ := bo_e h
            refine j_eqq e20 ?_
            refine j_iload_n K 2 d_ErrataRow_row_83 rfl rfl ?_
            refine j_iconst (v := 1) K d_ErrataRow_row_84 (by decide) ?_
            refine j_isub K d_ErrataRow_row_85 ?_
            obtain ⟨v21, e21, h⟩ := lt_e h
            refine j_eqi e21 ?_
            obtain ⟨q22, h⟩ := ck_e h
            obtain ⟨q23, h⟩ := ck_e h
            refine e_iald K q22 (inb_e q23) d_ErrataRow_row_86 ?_
            exact eret_i K h hr hlk d_ErrataRow_row_87
          · have h := if_t h q
            refine j_aload_n K 0 d_ErrataRow_row_66 rfl rfl ?_
            obtain ⟨q24, h⟩ := ck_e h
            refine eg_ErrataRow_rowSearch K ef_ErrataRow_78 q24 d_ErrataRow_row_67 ?_
            obtain ⟨o25, e25, h⟩ := bo_e h
            refine j_eqq e25 ?_
            obtain ⟨q26, h⟩ := ck_e h
            refine eg_RowSearch_fewest K ef_ErrataRow_274 q26 d_ErrataRow_row_70 ?_
            refine j_goto (tgt := 87) K d_ErrataRow_row_73 (by decide) ?_
            exact eret_i K h hr hlk d_ErrataRow_row_87
        · have h := if_f h q
          refine j_bipush (v := (-2)) K d_ErrataRow_row_39 (by decide) ?_
          exact eret_i K h hr hlk d_ErrataRow_row_41
      · have h := if_t h q
        refine j_bipush (v := (-3)) K d_ErrataRow_row_31 (by decide) ?_
        exact eret_i K h hr hlk d_ErrataRow_row_33
def b_RuleReader_readTest_54 (N : Nat) (R_RuleReader_readTest : Nat → Int32 → Cz → Option (Cz)) (R_RuleReader_readFact : Nat → Int32 → Cz → Option (Cz)) (k7 : Nat → Int32 → Int32 → Int32 → Int32 → Cz → Option (Cz)) (x0 : Nat) (x1 : Int32) (x3 : Int32) (x4 : Int32) (κ : Cz) : Option (Cz) := ck (isK κ x0 7) (bo (fr κ x0 0) (fun o13 => ck (isK κ o13 9) (bd (p_Tokens_isWord N o13 17 κ) (fun r14 κ14 => if r14 = 0 then some κ14 else ck (isK κ14 x0 7) (bo (fr κ14 x0 0) (fun o17 => ck (isK κ14 o17 9) (bo (p_Tokens_goOn N o17 κ14) (fun κ18 => lt (x4 + 1) (fun v20 => k7 x0 x1 r14 x3 v20 κ18)))))))))
set_option maxHeartbeats 4000000 in
set_option maxRecDepth 100000 in
theorem t_RuleReader_readTest_54 {p : Program} {l : Launch} {e : Env} {s : State} {m : MethodId} {args : Array Value} {below : List Frame} {meth : Method} {c : Code} {D : va_G} {θ : Tc} {A : Nat → Prop} {d : Nat} (K : KE p s m args c c_RuleReader_readTest 5 "ErrataRow$RuleReader" y_RuleReader_readTest none D θ A) (hN : NX s) (hr : meth.sig.returnType = none) (hlk : meth.locks = false) (N : Nat) (ρ : Cz) (R_RuleReader_readTest : Nat → Int32 → Cz → Option (Cz)) (R_RuleReader_readFact : Nat → Int32 → Cz → Option (Cz)) (hR_RuleReader_readTest : ∀ (z0 : Nat) (z1 : Int32) (κ : Cz) (ρ : Cz), R_RuleReader_readTest z0 z1 κ = some ρ → CEv l D θ y_RuleReader_readTest c_RuleReader_readTest 5 none (5 + d) 0 0 [.ref z0, .int z1] κ ρ) (hR_RuleReader_readFact : ∀ (z0 : Nat) (z1 : Int32) (κ : Cz) (ρ : Cz), R_RuleReader_readFact z0 z1 κ = some ρ → CEv l D θ y_RuleReader_readFact c_RuleReader_readFact 3 none (5 + d) 0 0 [.ref z0, .int z1] κ ρ) (k7 : Nat → Int32 → Int32 → Int32 → Int32 → Cz → Option (Cz)) (hk7 : ∀ (x0 : Nat) (x1 : Int32) (x2 : Int32) (x3 : Int32) (x4 : Int32) (κ : Cz), k7 x0 x1 x2 x3 x4 κ = some ρ → JE p l e (rmA (5 + (d + 1)) 0 0) s m args below meth c D θ A 5 0 0 (QEv below args s D θ A 0 0 ρ) κ [(0, .ref x0), (1, .int x1), (2, .int x2), (3, .int x3), (4, .int x4)] [] 7) (x0 : Nat) (x1 : Int32) (x3 : Int32) (x4 : Int32) (κ : Cz) (h : b_RuleReader_readTest_54 N R_RuleReader_readTest R_RuleReader_readFact k7 x0 x1 x3 x4 κ = some ρ) : JE p l e (rmA (5 + (d + 1)) 0 0) s m args below meth c D θ A 5 0 0 (QEv below args s D θ A 0 0 ρ) κ [(0, .ref x0), (1, .int x1), (3, .int x3), (4, .int x4)] [] 54 := by
  unfold b_RuleReader_readTest_54 at h
  refine j_aload_n K 0 d_RuleReader_readTest_54 rfl rfl ?_
  obtain ⟨q12, h⟩ := ck_e h
  refine eg_RuleReader_tokens K ef_RuleReader_21 q12 d_RuleReader_readTest_55 ?_
  obtain ⟨o13, e13, h⟩ := bo_e h
  refine j_eqq e13 ?_
  refine j_bipush (v := 17) K d_RuleReader_readTest_58 (by decide) ?_
  obtain ⟨q15, h⟩ := ck_e h
  obtain ⟨r14, κ14, e14, h⟩ := bd_e h
  refine ecallV_i K hN (c_Tokens_isWord_ok l D θ N o13 17 κ _ e14) eG_RuleReader_48 eh_Tokens_isWord (by decide) (rmA_ok (by omega) (by decide)) rfl q15 (by decide) rfl (st := []) (Nat.le_of_ble_eq_true rfl) rfl d_RuleReader_readTest_60 ⟨Nat.le_of_ble_eq_true rfl, Nat.le_of_ble_eq_true rfl⟩ ?_
  refine j_istore_n (lv' := [(2, .int r14), (0, .ref x0), (1, .int x1), (3, .int x3), (4, .int x4)]) K d_RuleReader_readTest_63 rfl (by decide) rfl ?_
  refine j_iload_n K 0 d_RuleReader_readTest_64 rfl rfl ?_
  refine j_if_ne (tgt := 69) K d_RuleReader_readTest_65 (by decide) (fun q => ?_) (fun q => ?_)
  · have h := if_f h q
    refine j_aload_n K 1 d_RuleReader_readTest_69 rfl rfl ?_
    obtain ⟨q16, h⟩ := ck_e h
    refine eg_RuleReader_tokens K ef_RuleReader_21 q16 d_RuleReader_readTest_70 ?_
    obtain ⟨o17, e17, h⟩ := bo_e h
    refine j_eqq e17 ?_
    obtain ⟨q19, h⟩ := ck_e h
    obtain ⟨κ18, e18, h⟩ := bo_e h
    refine ecallV_v K hN (c_Tokens_goOn_ok l D θ N o17 κ14 _ e18) eG_RuleReader_59 eh_Tokens_goOn (by decide) (rmA_ok (by omega) (by decide)) rfl q19 (by decide) rfl (st := []) (Nat.le_of_ble_eq_true rfl) rfl d_RuleReader_readTest_73 ⟨Nat.le_of_ble_eq_true rfl, Nat.le_of_ble_eq_true rfl⟩ ?_
    obtain ⟨v20, e20, h⟩ := lt_e h
    refine j_iinc (k := 4) (v := v20) (lv' := [(4, .int v20), (2, .int r14), (0, .ref x0), (1, .int x1), (3, .int x3)]) K d_RuleReader_readTest_76 rfl (by rw [e20]; rfl) (by decide) rfl ?_
    refine j_goto (tgt := 7) K d_RuleReader_readTest_79 (by decide) ?_
    refine j_sub [2, 3, 1, 4, 0] rfl ?_
    exact hk7 x0 x1 r14 x3 v20 κ18 h
  · have h := if_t h q
    exact eret_v K h hr hlk d_RuleReader_readTest_68
def b_RuleReader_readTest_30 (N : Nat) (R_RuleReader_readTest : Nat → Int32 → Cz → Option (Cz)) (R_RuleReader_readFact : Nat → Int32 → Cz → Option (Cz)) (k7 : Nat → Int32 → Int32 → Int32 → Int32 → Cz → Option (Cz)) (x0 : Nat) (x1 : Int32) (x2 : Int32) (x4 : Int32) (κ : Cz) : Option (Cz) := ck (isK κ x0 7) (bo (fr κ x0 0) (fun o4 => ck (isK κ o4 9) (bd (p_Tokens_isWord N o4 18 κ) (fun r5 κ5 => if r5 = 0 then if x2 = 0 then b_RuleReader_readTest_54 N R_RuleReader_readTest R_RuleReader_readFact k7 x0 x1 r5 x4 κ5 else ck (isK κ5 x0 7) (bo (p_RuleReader_add N x0 (-22) κ5) (fun κ21 => b_RuleReader_readTest_54 N R_RuleReader_readTest R_RuleReader_readFact k7 x0 x1 r5 x4 κ21)) else ck (isK κ5 x0 7) (bo (fr κ5 x0 0) (fun o8 => ck (isK κ5 o8 9) (bo (p_Tokens_goOn N o8 κ5) (fun κ9 => lt (x4 + 1) (fun v11 => k7 x0 x1 x2 r5 v11 κ9)))))))))
set_option maxHeartbeats 4000000 in
set_option maxRecDepth 100000 in
theorem t_RuleReader_readTest_30 {p : Program} {l : Launch} {e : Env} {s : State} {m : MethodId} {args : Array Value} {below : List Frame} {meth : Method} {c : Code} {D : va_G} {θ : Tc} {A : Nat → Prop} {d : Nat} (K : KE p s m args c c_RuleReader_readTest 5 "ErrataRow$RuleReader" y_RuleReader_readTest none D θ A) (hN : NX s) (hr : meth.sig.returnType = none) (hlk : meth.locks = false) (N : Nat) (ρ : Cz) (R_RuleReader_readTest : Nat → Int32 → Cz → Option (Cz)) (R_RuleReader_readFact : Nat → Int32 → Cz → Option (Cz)) (hR_RuleReader_readTest : ∀ (z0 : Nat) (z1 : Int32) (κ : Cz) (ρ : Cz), R_RuleReader_readTest z0 z1 κ = some ρ → CEv l D θ y_RuleReader_readTest c_RuleReader_readTest 5 none (5 + d) 0 0 [.ref z0, .int z1] κ ρ) (hR_RuleReader_readFact : ∀ (z0 : Nat) (z1 : Int32) (κ : Cz) (ρ : Cz), R_RuleReader_readFact z0 z1 κ = some ρ → CEv l D θ y_RuleReader_readFact c_RuleReader_readFact 3 none (5 + d) 0 0 [.ref z0, .int z1] κ ρ) (k7 : Nat → Int32 → Int32 → Int32 → Int32 → Cz → Option (Cz)) (hk7 : ∀ (x0 : Nat) (x1 : Int32) (x2 : Int32) (x3 : Int32) (x4 : Int32) (κ : Cz), k7 x0 x1 x2 x3 x4 κ = some ρ → JE p l e (rmA (5 + (d + 1)) 0 0) s m args below meth c D θ A 5 0 0 (QEv below args s D θ A 0 0 ρ) κ [(0, .ref x0), (1, .int x1), (2, .int x2), (3, .int x3), (4, .int x4)] [] 7) (x0 : Nat) (x1 : Int32) (x2 : Int32) (x4 : Int32) (κ : Cz) (h : b_RuleReader_readTest_30 N R_RuleReader_readTest R_RuleReader_readFact k7 x0 x1 x2 x4 κ = some ρ) : JE p l e (rmA (5 + (d + 1)) 0 0) s m args below meth c D θ A 5 0 0 (QEv below args s D θ A 0 0 ρ) κ [(0, .ref x0), (1, .int x1), (2, .int x2), (4, .int x4)] [] 30 := by
  unfold b_RuleReader_readTest_30 at h
  refine j_aload_n K 0 d_RuleReader_readTest_30 rfl rfl ?_
  obtain ⟨q3, h⟩ := ck_e h
  refine eg_RuleReader_tokens K ef_RuleReader_21 q3 d_RuleReader_readTest_31 ?_
  obtain ⟨o4, e4, h⟩ := bo_e h
  refine j_eqq e4 ?_
  refine j_bipush (v := 18) K d_RuleReader_readTest_34 (by decide) ?_
  obtain ⟨q6, h⟩ := ck_e h
  obtain ⟨r5, κ5, e5, h⟩ := bd_e h
  refine ecallV_i K hN (c_Tokens_isWord_ok l D θ N o4 18 κ _ e5) eG_RuleReader_48 eh_Tokens_isWord (by decide) (rmA_ok (by omega) (by decide)) rfl q6 (by decide) rfl (st := []) (Nat.le_of_ble_eq_true rfl) rfl d_RuleReader_readTest_36 ⟨Nat.le_of_ble_eq_true rfl, Nat.le_of_ble_eq_true rfl⟩ ?_
  refine j_istore_n (lv' := [(3, .int r5), (0, .ref x0), (1, .int x1), (2, .int x2), (4, .int x4)]) K d_RuleReader_readTest_39 rfl (by decide) rfl ?_
  refine j_iload_n K 0 d_RuleReader_readTest_40 rfl rfl ?_
  refine j_if_ne (tgt := 69) K d_RuleReader_readTest_41 (by decide) (fun q => ?_) (fun q => ?_)
  · have h := if_f h q
    refine j_aload_n K 1 d_RuleReader_readTest_69 rfl rfl ?_
    obtain ⟨q7, h⟩ := ck_e h
    refine eg_RuleReader_tokens K ef_RuleReader_21 q7 d_RuleReader_readTest_70 ?_
    obtain ⟨o8, e8, h⟩ := bo_e h
    refine j_eqq e8 ?_
    obtain ⟨q10, h⟩ := ck_e h
    obtain ⟨κ9, e9, h⟩ := bo_e h
    refine ecallV_v K hN (c_Tokens_goOn_ok l D θ N o8 κ5 _ e9) eG_RuleReader_59 eh_Tokens_goOn (by decide) (rmA_ok (by omega) (by decide)) rfl q10 (by decide) rfl (st := []) (Nat.le_of_ble_eq_true rfl) rfl d_RuleReader_readTest_73 ⟨Nat.le_of_ble_eq_true rfl, Nat.le_of_ble_eq_true rfl⟩ ?_
    obtain ⟨v11, e11, h⟩ := lt_e h
    refine j_iinc (k := 4) (v := v11) (lv' := [(4, .int v11), (3, .int r5), (0, .ref x0), (1, .int x1), (2, .int x2)]) K d_RuleReader_readTest_76 rfl (by rw [e11]; rfl) (by decide) rfl ?_
    refine j_goto (tgt := 7) K d_RuleReader_readTest_79 (by decide) ?_
    refine j_sub [2, 3, 4, 1, 0] rfl ?_
    exact hk7 x0 x1 x2 r5 v11 κ9 h
  · have h := if_t h q
    refine j_iload_n K 3 d_RuleReader_readTest_44 rfl rfl ?_
    refine j_if_eq (tgt := 54) K d_RuleReader_readTest_45 (by decide) (fun q => ?_) (fun q => ?_)
    · have h := if_t h q
      refine j_sub [1, 2, 0, 4] rfl ?_
      exact t_RuleReader_readTest_54 K hN hr hlk N ρ R_RuleReader_readTest R_RuleReader_readFact hR_RuleReader_readTest hR_RuleReader_readFact k7 hk7 x0 x1 r5 x4 κ5 h
    · have h := if_f h q
      refine j_aload_n K 1 d_RuleReader_readTest_48 rfl rfl ?_
      refine j_bipush (v := (-22)) K d_RuleReader_readTest_49 (by decide) ?_
      obtain ⟨q22, h⟩ := ck_e h
      obtain ⟨κ21, e21, h⟩ := bo_e h
      refine ecallV_v K hN (c_RuleReader_add_ok l D θ N x0 (-22) κ5 _ e21) eG_RuleReader_77 eh_RuleReader_add (by decide) (rmA_ok (by omega) (by decide)) rfl q22 (by decide) rfl (st := []) (Nat.le_of_ble_eq_true rfl) rfl d_RuleReader_readTest_51 ⟨Nat.le_of_ble_eq_true rfl, Nat.le_of_ble_eq_true rfl⟩ ?_
      refine j_sub [1, 2, 0, 4] rfl ?_
      exact t_RuleReader_readTest_54 K hN hr hlk N ρ R_RuleReader_readTest R_RuleReader_readFact hR_RuleReader_readTest hR_RuleReader_readFact k7 hk7 x0 x1 r5 x4 κ21 h
def b_RuleReader_readTest_7 (N : Nat) (R_RuleReader_readTest : Nat → Int32 → Cz → Option (Cz)) (R_RuleReader_readFact : Nat → Int32 → Cz → Option (Cz)) : Nat → Nat → Int32 → Int32 → Int32 → Int32 → Cz → Option (Cz)
  | 0, _, _, _, _, _, _ => none
  | n + 1, x0, x1, x2, x3, x4, κ => if 400 ≤ x4 then some κ else ck (isK κ x0 7) (bo (R_RuleReader_readFact x0 x1 κ) (fun κ1 => if x3 = 0 then b_RuleReader_readTest_30 N R_RuleReader_readTest R_RuleReader_readFact (b_RuleReader_readTest_7 N R_RuleReader_readTest R_RuleReader_readFact n) x0 x1 x2 x4 κ1 else ck (isK κ1 x0 7) (bo (p_RuleReader_add N x0 (-21) κ1) (fun κ23 => b_RuleReader_readTest_30 N R_RuleReader_readTest R_RuleReader_readFact (b_RuleReader_readTest_7 N R_RuleReader_readTest R_RuleReader_readFact n) x0 x1 x2 x4 κ23))))
set_option maxHeartbeats 4000000 in
set_option maxRecDepth 100000 in
theorem t_RuleReader_readTest_7 {p : Program} {l : Launch} {e : Env} {s : State} {m : MethodId} {args : Array Value} {below : List Frame} {meth : Method} {c : Code} {D : va_G} {θ : Tc} {A : Nat → Prop} {d : Nat} (K : KE p s m args c c_RuleReader_readTest 5 "ErrataRow$RuleReader" y_RuleReader_readTest none D θ A) (hN : NX s) (hr : meth.sig.returnType = none) (hlk : meth.locks = false) (N : Nat) (ρ : Cz) (R_RuleReader_readTest : Nat → Int32 → Cz → Option (Cz)) (R_RuleReader_readFact : Nat → Int32 → Cz → Option (Cz)) (hR_RuleReader_readTest : ∀ (z0 : Nat) (z1 : Int32) (κ : Cz) (ρ : Cz), R_RuleReader_readTest z0 z1 κ = some ρ → CEv l D θ y_RuleReader_readTest c_RuleReader_readTest 5 none (5 + d) 0 0 [.ref z0, .int z1] κ ρ) (hR_RuleReader_readFact : ∀ (z0 : Nat) (z1 : Int32) (κ : Cz) (ρ : Cz), R_RuleReader_readFact z0 z1 κ = some ρ → CEv l D θ y_RuleReader_readFact c_RuleReader_readFact 3 none (5 + d) 0 0 [.ref z0, .int z1] κ ρ) : ∀ (n : Nat) (x0 : Nat) (x1 : Int32) (x2 : Int32) (x3 : Int32) (x4 : Int32) (κ : Cz), b_RuleReader_readTest_7 N R_RuleReader_readTest R_RuleReader_readFact n x0 x1 x2 x3 x4 κ = some ρ → JE p l e (rmA (5 + (d + 1)) 0 0) s m args below meth c D θ A 5 0 0 (QEv below args s D θ A 0 0 ρ) κ [(0, .ref x0), (1, .int x1), (2, .int x2), (3, .int x3), (4, .int x4)] [] 7 := by
  intro n
  induction n with
  | zero =>
    intro x0 x1 x2 x3 x4 κ h
    exact absurd h (by simp [b_RuleReader_readTest_7])
  | succ n ih =>
    intro x0 x1 x2 x3 x4 κ h
    rw [b_RuleReader_readTest_7] at h
    refine j_iload K 4 d_RuleReader_readTest_7 rfl ?_
    refine j_sipush (v := 400) K d_RuleReader_readTest_9 (by decide) ?_
    refine j_icmp_ge (tgt := 82) K d_RuleReader_readTest_12 (by decide) (fun q => ?_) (fun q => ?_)
    · have h := if_t h q
      exact eret_v K h hr hlk d_RuleReader_readTest_82
    · have h := if_f h q
      refine j_aload_n K 0 d_RuleReader_readTest_15 rfl rfl ?_
      refine j_iload_n K 1 d_RuleReader_readTest_16 rfl rfl ?_
      obtain ⟨q2, h⟩ := ck_e h
      obtain ⟨κ1, e1, h⟩ := bo_e h
      refine ecallV_v K hN (hR_RuleReader_readFact x0 x1 κ _ e1) eG_RuleReader_74 eh_RuleReader_readFact (by decide) (rmA_ok (by omega) (by decide)) rfl q2 (by decide) rfl (st := []) (Nat.le_of_ble_eq_true rfl) rfl d_RuleReader_readTest_17 ⟨Nat.le_of_ble_eq_true rfl, Nat.le_of_ble_eq_true rfl⟩ ?_
      refine j_iload_n K 3 d_RuleReader_readTest_20 rfl rfl ?_
      refine j_if_eq (tgt := 30) K d_RuleReader_readTest_21 (by decide) (fun q => ?_) (fun q => ?_)
      · have h := if_t h q
        refine j_sub [0, 1, 2, 4] rfl ?_
        exact t_RuleReader_readTest_30 K hN hr hlk N ρ R_RuleReader_readTest R_RuleReader_readFact hR_RuleReader_readTest hR_RuleReader_readFact (b_RuleReader_readTest_7 N R_RuleReader_readTest R_RuleReader_readFact n) ih x0 x1 x2 x4 κ1 h
      · have h := if_f h q
        refine j_aload_n K 0 d_RuleReader_readTest_24 rfl rfl ?_
        refine j_bipush (v := (-21)) K d_RuleReader_readTest_25 (by decide) ?_
        obtain ⟨q24, h⟩ := ck_e h
        obtain ⟨κ23, e23, h⟩ := bo_e h
        refine ecallV_v K hN (c_RuleReader_add_ok l D θ N x0 (-21) κ1 _ e23) eG_RuleReader_77 eh_RuleReader_add (by decide) (rmA_ok (by omega) (by decide)) rfl q24 (by decide) rfl (st := []) (Nat.le_of_ble_eq_true rfl) rfl d_RuleReader_readTest_27 ⟨Nat.le_of_ble_eq_true rfl, Nat.le_of_ble_eq_true rfl⟩ ?_
        refine j_sub [0, 1, 2, 4] rfl ?_
        exact t_RuleReader_readTest_30 K hN hr hlk N ρ R_RuleReader_readTest R_RuleReader_readFact hR_RuleReader_readTest hR_RuleReader_readFact (b_RuleReader_readTest_7 N R_RuleReader_readTest R_RuleReader_readFact n) ih x0 x1 x2 x4 κ23 h
def q_RuleReader_readTest (N : Nat) (R_RuleReader_readTest : Nat → Int32 → Cz → Option (Cz)) (R_RuleReader_readFact : Nat → Int32 → Cz → Option (Cz)) (this : Nat) (a1 : Int32) (κ : Cz) : Option (Cz) := b_RuleReader_readTest_7 N R_RuleReader_readTest R_RuleReader_readFact N this a1 0 0 0 κ
set_option maxHeartbeats 4000000 in
set_option maxRecDepth 100000 in
theorem c_RuleReader_readTest_rec (l : Launch) (D : va_G) (θ : Tc) (N : Nat) (d : Nat) (R_RuleReader_readTest : Nat → Int32 → Cz → Option (Cz)) (R_RuleReader_readFact : Nat → Int32 → Cz → Option (Cz)) (hR_RuleReader_readTest : ∀ (z0 : Nat) (z1 : Int32) (κ : Cz) (ρ : Cz), R_RuleReader_readTest z0 z1 κ = some ρ → CEv l D θ y_RuleReader_readTest c_RuleReader_readTest 5 none (5 + d) 0 0 [.ref z0, .int z1] κ ρ) (hR_RuleReader_readFact : ∀ (z0 : Nat) (z1 : Int32) (κ : Cz) (ρ : Cz), R_RuleReader_readFact z0 z1 κ = some ρ → CEv l D θ y_RuleReader_readFact c_RuleReader_readFact 3 none (5 + d) 0 0 [.ref z0, .int z1] κ ρ) (this : Nat) (a1 : Int32) (κ : Cz) (ρ : Cz) (h : q_RuleReader_readTest N R_RuleReader_readTest R_RuleReader_readFact this a1 κ = some ρ) : CEv l D θ y_RuleReader_readTest c_RuleReader_readTest 5 none (5 + (d + 1)) 0 0 [.ref this, .int a1] κ ρ := by
  intro sz
  refine e_met l [.ref this, .int a1] (by decide +kernel) (Nat.le_of_ble_eq_true rfl) ?_
  intro p e s m args below meth c K hN hr hlk hnm hs
  generalize va_A (wE θ κ) sz = A at K ⊢
  have K : KE p s m args c c_RuleReader_readTest 5 "ErrataRow$RuleReader" y_RuleReader_readTest none D θ A := K
  show JE p l e (rmA (5 + (d + 1)) 0 0) s m args below meth c D θ A 5 0 0 (QEv below args s D θ A 0 0 ρ) κ [(0, .ref this), (1, .int a1)] [] 0
  unfold q_RuleReader_readTest at h
  refine j_iconst (v := 0) K d_RuleReader_readTest_0 (by decide) ?_
  refine j_istore_n (lv' := [(2, .int 0), (0, .ref this), (1, .int a1)]) K d_RuleReader_readTest_1 rfl (by decide) rfl ?_
  refine j_iconst (v := 0) K d_RuleReader_readTest_2 (by decide) ?_
  refine j_istore_n (lv' := [(3, .int 0), (2, .int 0), (0, .ref this), (1, .int a1)]) K d_RuleReader_readTest_3 rfl (by decide) rfl ?_
  refine j_iconst (v := 0) K d_RuleReader_readTest_4 (by decide) ?_
  refine j_istore (lv' := [(4, .int 0), (3, .int 0), (2, .int 0), (0, .ref this), (1, .int a1)]) K d_RuleReader_readTest_5 (by decide) rfl ?_
  refine j_sub [3, 4, 2, 1, 0] rfl ?_
  exact t_RuleReader_readTest_7 K hN hr hlk N ρ R_RuleReader_readTest R_RuleReader_readFact hR_RuleReader_readTest hR_RuleReader_readFact N this a1 0 0 0 κ h
def b_RuleReader_readFact_33 (N : Nat) (R_RuleReader_readTest : Nat → Int32 → Cz → Option (Cz)) (R_RuleReader_readFact : Nat → Int32 → Cz → Option (Cz)) (x0 : Nat) (x1 : Int32) (x2 : Int32) (κ : Cz) : Option (Cz) := if x1 < 10 then ck (isK κ x0 7) (bo (fr κ x0 0) (fun o6 => ck (isK κ o6 9) (bo (p_Tokens_goOn N o6 κ) (fun κ7 => if x2 = 0 then ck (isK κ7 x0 7) (bo (R_RuleReader_readTest x0 (x1 + 1) κ7) (fun κ9 => ck (isK κ9 x0 7) (bo (fr κ9 x0 0) (fun o12 => ck (isK κ9 o12 9) (bo (p_Tokens_takeSign N o12 93 κ9) (fun κ13 => some κ13)))))) else ck (isK κ7 x0 7) (bo (R_RuleReader_readFact x0 (x1 + 1) κ7) (fun κ15 => ck (isK κ15 x0 7) (bo (p_RuleReader_add N x0 (-20) κ15) (fun κ17 => some κ17)))))))) else ck (isK κ x0 7) (bo (fr κ x0 0) (fun o20 => ck (isK κ o20 9) (bo (p_Tokens_fail N o20 2 κ) (fun κ21 => some κ21))))
set_option maxHeartbeats 4000000 in
set_option maxRecDepth 100000 in
theorem t_RuleReader_readFact_33 {p : Program} {l : Launch} {e : Env} {s : State} {m : MethodId} {args : Array Value} {below : List Frame} {meth : Method} {c : Code} {D : va_G} {θ : Tc} {A : Nat → Prop} {d : Nat} (K : KE p s m args c c_RuleReader_readFact 3 "ErrataRow$RuleReader" y_RuleReader_readFact none D θ A) (hN : NX s) (hr : meth.sig.returnType = none) (hlk : meth.locks = false) (N : Nat) (ρ : Cz) (R_RuleReader_readTest : Nat → Int32 → Cz → Option (Cz)) (R_RuleReader_readFact : Nat → Int32 → Cz → Option (Cz)) (hR_RuleReader_readTest : ∀ (z0 : Nat) (z1 : Int32) (κ : Cz) (ρ : Cz), R_RuleReader_readTest z0 z1 κ = some ρ → CEv l D θ y_RuleReader_readTest c_RuleReader_readTest 5 none (5 + d) 0 0 [.ref z0, .int z1] κ ρ) (hR_RuleReader_readFact : ∀ (z0 : Nat) (z1 : Int32) (κ : Cz) (ρ : Cz), R_RuleReader_readFact z0 z1 κ = some ρ → CEv l D θ y_RuleReader_readFact c_RuleReader_readFact 3 none (5 + d) 0 0 [.ref z0, .int z1] κ ρ) (x0 : Nat) (x1 : Int32) (x2 : Int32) (κ : Cz) (h : b_RuleReader_readFact_33 N R_RuleReader_readTest R_RuleReader_readFact x0 x1 x2 κ = some ρ) : JE p l e (rmA (5 + (d + 1)) 0 0) s m args below meth c D θ A 3 0 0 (QEv below args s D θ A 0 0 ρ) κ [(0, .ref x0), (1, .int x1), (2, .int x2)] [] 33 := by
  unfold b_RuleReader_readFact_33 at h
  refine j_iload_n K 1 d_RuleReader_readFact_33 rfl rfl ?_
  refine j_bipush (v := 10) K d_RuleReader_readFact_34 (by decide) ?_
  refine j_icmp_lt (tgt := 50) K d_RuleReader_readFact_36 (by decide) (fun q => ?_) (fun q => ?_)
  · have h := if_t h q
    refine j_aload_n K 0 d_RuleReader_readFact_50 rfl rfl ?_
    obtain ⟨q5, h⟩ := ck_e h
    refine eg_RuleReader_tokens K ef_RuleReader_21 q5 d_RuleReader_readFact_51 ?_
    obtain ⟨o6, e6, h⟩ := bo_e h
    refine j_eqq e6 ?_
    obtain ⟨q8, h⟩ := ck_e h
    obtain ⟨κ7, e7, h⟩ := bo_e h
    refine ecallV_v K hN (c_Tokens_goOn_ok l D θ N o6 κ _ e7) eG_RuleReader_59 eh_Tokens_goOn (by decide) (rmA_ok (by omega) (by decide)) rfl q8 (by decide) rfl (st := []) (Nat.le_of_ble_eq_true rfl) rfl d_RuleReader_readFact_54 ⟨Nat.le_of_ble_eq_true rfl, Nat.le_of_ble_eq_true rfl⟩ ?_
    refine j_iload_n K 2 d_RuleReader_readFact_57 rfl rfl ?_
    refine j_if_eq (tgt := 77) K d_RuleReader_readFact_58 (by decide) (fun q => ?_) (fun q => ?_)
    · have h := if_t h q
      refine j_aload_n K 0 d_RuleReader_readFact_77 rfl rfl ?_
      refine j_iload_n K 1 d_RuleReader_readFact_78 rfl rfl ?_
      refine j_iconst (v := 1) K d_RuleReader_readFact_79 (by decide) ?_
      refine j_iadd K d_RuleReader_readFact_80 ?_
      obtain ⟨q10, h⟩ := ck_e h
      obtain ⟨κ9, e9, h⟩ := bo_e h
      refine ecallV_v K hN (hR_RuleReader_readTest x0 (x1 + 1) κ7 _ e9) eG_RuleReader_65 eh_RuleReader_readTest (by decide) (rmA_ok (by omega) (by decide)) rfl q10 (by decide) rfl (st := []) (Nat.le_of_ble_eq_true rfl) rfl d_RuleReader_readFact_81 ⟨Nat.le_of_ble_eq_true rfl, Nat.le_of_ble_eq_true rfl⟩ ?_
      refine j_aload_n K 0 d_RuleReader_readFact_84 rfl rfl ?_
      obtain ⟨q11, h⟩ := ck_e h
      refine eg_RuleReader_tokens K ef_RuleReader_21 q11 d_RuleReader_readFact_85 ?_
      obtain ⟨o12, e12, h⟩ := bo_e h
      refine j_eqq e12 ?_
      refine j_bipush (v := 93) K d_RuleReader_readFact_88 (by decide) ?_
      obtain ⟨q14, h⟩ := ck_e h
      obtain ⟨κ13, e13, h⟩ := bo_e h
      refine ecallV_v K hN (c_Tokens_takeSign_ok l D θ N o12 93 κ9 _ e13) eG_RuleReader_71 eh_Tokens_takeSign (by decide) (rmA_ok (by omega) (by decide)) rfl q14 (by decide) rfl (st := []) (Nat.le_of_ble_eq_true rfl) rfl d_RuleReader_readFact_90 ⟨Nat.le_of_ble_eq_true rfl, Nat.le_of_ble_eq_true rfl⟩ ?_
      exact eret_v K h hr hlk d_RuleReader_readFact_93
    · have h := if_f h q
      refine j_aload_n K 0 d_RuleReader_readFact_61 rfl rfl ?_
      refine j_iload_n K 1 d_RuleReader_readFact_62 rfl rfl ?_
      refine j_iconst (v := 1) K d_RuleReader_readFact_63 (by decide) ?_
      refine j_iadd K d_RuleReader_readFact_64 ?_
      obtain ⟨q16, h⟩ := ck_e h
      obtain ⟨κ15, e15, h⟩ := bo_e h
      refine ecallV_v K hN (hR_RuleReader_readFact x0 (x1 + 1) κ7 _ e15) eG_RuleReader_74 eh_RuleReader_readFact (by decide) (rmA_ok (by omega) (by decide)) rfl q16 (by decide) rfl (st := []) (Nat.le_of_ble_eq_true rfl) rfl d_RuleReader_readFact_65 ⟨Nat.le_of_ble_eq_true rfl, Nat.le_of_ble_eq_true rfl⟩ ?_
      refine j_aload_n K 0 d_RuleReader_readFact_68 rfl rfl ?_
      refine j_bipush (v := (-20)) K d_RuleReader_readFact_69 (by decide) ?_
      obtain ⟨q18, h⟩ := ck_e h
      obtain ⟨κ17, e17, h⟩ := bo_e h
      refine ecallV_v K hN (c_RuleReader_add_ok l D θ N x0 (-20) κ15 _ e17) eG_RuleReader_77 eh_RuleReader_add (by decide) (rmA_ok (by omega) (by decide)) rfl q18 (by decide) rfl (st := []) (Nat.le_of_ble_eq_true rfl) rfl d_RuleReader_readFact_71 ⟨Nat.le_of_ble_eq_true rfl, Nat.le_of_ble_eq_true rfl⟩ ?_
      refine j_goto (tgt := 93) K d_RuleReader_readFact_74 (by decide) ?_
      exact eret_v K h hr hlk d_RuleReader_readFact_93
  · have h := if_f h q
    refine j_aload_n K 0 d_RuleReader_readFact_39 rfl rfl ?_
    obtain ⟨q19, h⟩ := ck_e h
    refine eg_RuleReader_tokens K ef_RuleReader_21 q19 d_RuleReader_readFact_40 ?_
    obtain ⟨o20, e20, h⟩ := bo_e h
    refine j_eqq e20 ?_
    refine j_iconst (v := 2) K d_RuleReader_readFact_43 (by decide) ?_
    obtain ⟨q22, h⟩ := ck_e h
    obtain ⟨κ21, e21, h⟩ := bo_e h
    refine ecallV_v K hN (c_Tokens_fail_ok l D θ N o20 2 κ _ e21) eG_RuleReader_52 eh_Tokens_fail (by decide) (rmA_ok (by omega) (by decide)) rfl q22 (by decide) rfl (st := []) (Nat.le_of_ble_eq_true rfl) rfl d_RuleReader_readFact_44 ⟨Nat.le_of_ble_eq_true rfl, Nat.le_of_ble_eq_true rfl⟩ ?_
    refine j_goto (tgt := 93) K d_RuleReader_readFact_47 (by decide) ?_
    exact eret_v K h hr hlk d_RuleReader_readFact_93
def q_RuleReader_readFact (N : Nat) (R_RuleReader_readTest : Nat → Int32 → Cz → Option (Cz)) (R_RuleReader_readFact : Nat → Int32 → Cz → Option (Cz)) (this : Nat) (a1 : Int32) (κ : Cz) : Option (Cz) := ck (isK κ this 7) (bo (fr κ this 0) (fun o2 => ck (isK κ o2 9) (bd (p_Tokens_isWord N o2 19 κ) (fun r3 κ3 => if r3 = 0 then ck (isK κ3 this 7) (bo (fr κ3 this 0) (fun o24 => ck (isK κ3 o24 9) (bd (p_Tokens_isSign N o24 91 κ3) (fun r25 κ25 => if r25 = 0 then ck (isK κ25 this 7) (bo (p_RuleReader_readComparison N this κ25) (fun κ27 => some κ27)) else b_RuleReader_readFact_33 N R_RuleReader_readTest R_RuleReader_readFact this a1 r3 κ25)))) else b_RuleReader_readFact_33 N R_RuleReader_readTest R_RuleReader_readFact this a1 r3 κ3))))
set_option maxHeartbeats 4000000 in
set_option maxRecDepth 100000 in
theorem c_RuleReader_readFact_rec (l : Launch) (D : va_G) (θ : Tc) (N : Nat) (d : Nat) (R_RuleReader_readTest : Nat → Int32 → Cz → Option (Cz)) (R_RuleReader_readFact : Nat → Int32 → Cz → Option (Cz)) (hR_RuleReader_readTest : ∀ (z0 : Nat) (z1 : Int32) (κ : Cz) (ρ : Cz), R_RuleReader_readTest z0 z1 κ = some ρ → CEv l D θ y_RuleReader_readTest c_RuleReader_readTest 5 none (5 + d) 0 0 [.ref z0, .int z1] κ ρ) (hR_RuleReader_readFact : ∀ (z0 : Nat) (z1 : Int32) (κ : Cz) (ρ : Cz), R_RuleReader_readFact z0 z1 κ = some ρ → CEv l D θ y_RuleReader_readFact c_RuleReader_readFact 3 none (5 + d) 0 0 [.ref z0, .int z1] κ ρ) (this : Nat) (a1 : Int32) (κ : Cz) (ρ : Cz) (h : q_RuleReader_readFact N R_RuleReader_readTest R_RuleReader_readFact this a1 κ = some ρ) : CEv l D θ y_RuleReader_readFact c_RuleReader_readFact 3 none (5 + (d + 1)) 0 0 [.ref this, .int a1] κ ρ := by
  intro sz
  refine e_met l [.ref this, .int a1] (by decide +kernel) (Nat.le_of_ble_eq_true rfl) ?_
  intro p e s m args below meth c K hN hr hlk hnm hs
  generalize va_A (wE θ κ) sz = A at K ⊢
  have K : KE p s m args c c_RuleReader_readFact 3 "ErrataRow$RuleReader" y_RuleReader_readFact none D θ A := K
  show JE p l e (rmA (5 + (d + 1)) 0 0) s m args below meth c D θ A 3 0 0 (QEv below args s D θ A 0 0 ρ) κ [(0, .ref this), (1, .int a1)] [] 0
  unfold q_RuleReader_readFact at h
  refine j_aload_n K 0 d_RuleReader_readFact_0 rfl rfl ?_
  obtain ⟨q1, h⟩ := ck_e h
  refine eg_RuleReader_tokens K ef_RuleReader_21 q1 d_RuleReader_readFact_1 ?_
  obtain ⟨o2, e2, h⟩ := bo_e h
  refine j_eqq e2 ?_
  refine j_bipush (v := 19) K d_RuleReader_readFact_4 (by decide) ?_
  obtain ⟨q4, h⟩ := ck_e h
  obtain ⟨r3, κ3, e3, h⟩ := bd_e h
  refine ecallV_i K hN (c_Tokens_isWord_ok l D θ N o2 19 κ _ e3) eG_RuleReader_48 eh_Tokens_isWord (by decide) (rmA_ok (by omega) (by decide)) rfl q4 (by decide) rfl (st := []) (Nat.le_of_ble_eq_true rfl) rfl d_RuleReader_readFact_6 ⟨Nat.le_of_ble_eq_true rfl, Nat.le_of_ble_eq_true rfl⟩ ?_
  refine j_istore_n (lv' := [(2, .int r3), (0, .ref this), (1, .int a1)]) K d_RuleReader_readFact_9 rfl (by decide) rfl ?_
  refine j_iload_n K 0 d_RuleReader_readFact_10 rfl rfl ?_
  refine j_if_ne (tgt := 33) K d_RuleReader_readFact_11 (by decide) (fun q => ?_) (fun q => ?_)
  · have h := if_f h q
    refine j_sub [1, 2, 0] rfl ?_
    exact t_RuleReader_readFact_33 K hN hr hlk N ρ R_RuleReader_readTest R_RuleReader_readFact hR_RuleReader_readTest hR_RuleReader_readFact this a1 r3 κ3 h
  · have h := if_t h q
    refine j_aload_n K 1 d_RuleReader_readFact_14 rfl rfl ?_
    obtain ⟨q23, h⟩ := ck_e h
    refine eg_RuleReader_tokens K ef_RuleReader_21 q23 d_RuleReader_readFact_15 ?_
    obtain ⟨o24, e24, h⟩ := bo_e h
    refine j_eqq e24 ?_
    refine j_bipush (v := 91) K d_RuleReader_readFact_18 (by decide) ?_
    obtain ⟨q26, h⟩ := ck_e h
    obtain ⟨r25, κ25, e25, h⟩ := bd_e h
    refine ecallV_i K hN (c_Tokens_isSign_ok l D θ N o24 91 κ3 _ e25) eG_RuleReader_80 eh_Tokens_isSign (by decide) (rmA_ok (by omega) (by decide)) rfl q26 (by decide) rfl (st := []) (Nat.le_of_ble_eq_true rfl) rfl d_RuleReader_readFact_20 ⟨Nat.le_of_ble_eq_true rfl, Nat.le_of_ble_eq_true rfl⟩ ?_
    refine j_if_ne (tgt := 33) K d_RuleReader_readFact_23 (by decide) (fun q => ?_) (fun q => ?_)
    · have h := if_f h q
      refine j_sub [1, 2, 0] rfl ?_
      exact t_RuleReader_readFact_33 K hN hr hlk N ρ R_RuleReader_readTest R_RuleReader_readFact hR_RuleReader_readTest hR_RuleReader_readFact this a1 r3 κ25 h
    · have h := if_t h q
      refine j_aload_n K 1 d_RuleReader_readFact_26 rfl rfl ?_
      obtain ⟨q28, h⟩ := ck_e h
      obtain ⟨κ27, e27, h⟩ := bo_e h
      refine ecallV_v K hN (c_RuleReader_readComparison_ok l D θ N this κ25 _ e27) eG_RuleReader_83 eh_RuleReader_readComparison (by decide) (rmA_ok (by omega) (by decide)) rfl q28 (by decide) rfl (st := []) (Nat.le_of_ble_eq_true rfl) rfl d_RuleReader_readFact_27 ⟨Nat.le_of_ble_eq_true rfl, Nat.le_of_ble_eq_true rfl⟩ ?_
      refine j_goto (tgt := 93) K d_RuleReader_readFact_30 (by decide) ?_
      exact eret_v K h hr hlk d_RuleReader_readFact_93
def r_RuleReader_readTest_RuleReader_readFact (N : Nat) : Nat → (Nat → Int32 → Cz → Option (Cz)) × (Nat → Int32 → Cz → Option (Cz))
  | 0 => (fun _ _ _ => none, fun _ _ _ => none)
  | d + 1 => (q_RuleReader_readTest N (r_RuleReader_readTest_RuleReader_readFact N d).1 (r_RuleReader_readTest_RuleReader_readFact N d).2, q_RuleReader_readFact N (r_RuleReader_readTest_RuleReader_readFact N d).1 (r_RuleReader_readTest_RuleReader_readFact N d).2)
theorem c_r_RuleReader_readTest_RuleReader_readFact (l : Launch) (D : va_G) (θ : Tc) (N : Nat) : ∀ d : Nat, (∀ (z0 : Nat) (z1 : Int32) (κ : Cz) (ρ : Cz), (r_RuleReader_readTest_RuleReader_readFact N d).1 z0 z1 κ = some ρ → CEv l D θ y_RuleReader_readTest c_RuleReader_readTest 5 none (5 + d) 0 0 [.ref z0, .int z1] κ ρ) ∧ (∀ (z0 : Nat) (z1 : Int32) (κ : Cz) (ρ : Cz), (r_RuleReader_readTest_RuleReader_readFact N d).2 z0 z1 κ = some ρ → CEv l D θ y_RuleReader_readFact c_RuleReader_readFact 3 none (5 + d) 0 0 [.ref z0, .int z1] κ ρ) := by
  intro d
  induction d with
  | zero => exact ⟨fun _ _ _ _ h => absurd h (by simp [r_RuleReader_readTest_RuleReader_readFact]), fun _ _ _ _ h => absurd h (by simp [r_RuleReader_readTest_RuleReader_readFact])⟩
  | succ d ih => exact ⟨fun z0 z1 κ ρ h => c_RuleReader_readTest_rec l D θ N d (r_RuleReader_readTest_RuleReader_readFact N d).1 (r_RuleReader_readTest_RuleReader_readFact N d).2 ih.1 ih.2 z0 z1 κ ρ h, fun z0 z1 κ ρ h => c_RuleReader_readFact_rec l D θ N d (r_RuleReader_readTest_RuleReader_readFact N d).1 (r_RuleReader_readTest_RuleReader_readFact N d).2 ih.1 ih.2 z0 z1 κ ρ h⟩
def p_RuleReader_readTest (N : Nat) (z0 : Nat) (z1 : Int32) (κ : Cz) : Option (Cz) := (r_RuleReader_readTest_RuleReader_readFact N 26).1 z0 z1 κ
theorem c_RuleReader_readTest_ok (l : Launch) (D : va_G) (θ : Tc) (N : Nat) (z0 : Nat) (z1 : Int32) (κ : Cz) (ρ : Cz) (h : p_RuleReader_readTest N z0 z1 κ = some ρ) : CEv l D θ y_RuleReader_readTest c_RuleReader_readTest 5 none 31 0 0 [.ref z0, .int z1] κ ρ := (c_r_RuleReader_readTest_RuleReader_readFact l D θ N 26).1 z0 z1 κ ρ h
def p_RuleReader_readFact (N : Nat) (z0 : Nat) (z1 : Int32) (κ : Cz) : Option (Cz) := (r_RuleReader_readTest_RuleReader_readFact N 26).2 z0 z1 κ
theorem c_RuleReader_readFact_ok (l : Launch) (D : va_G) (θ : Tc) (N : Nat) (z0 : Nat) (z1 : Int32) (κ : Cz) (ρ : Cz) (h : p_RuleReader_readFact N z0 z1 κ = some ρ) : CEv l D θ y_RuleReader_readFact c_RuleReader_readFact 3 none 31 0 0 [.ref z0, .int z1] κ ρ := (c_r_RuleReader_readTest_RuleReader_readFact l D θ N 26).2 z0 z1 κ ρ h
def b_RuleReader_readRule_100 (N : Nat) (k15 : Nat → Cz → Option (Int32 × Cz)) (x0 : Nat) (κ : Cz) : Option (Int32 × Cz) := ck (isK κ x0 7) (bo (fr κ x0 3) (fun o39 => lt (fi κ x0 4) (fun v40 => ck (isK κ o39 20) (ck (inb (fi κ x0 5) (ln κ o39)) (lt (sai o39 (upd (ai κ o39) (fi κ x0 5).toNatClampNeg v40) κ) (fun κ43 => lt ((fi κ43 x0 5) + 1) (fun v44 => lt (sfi x0 5 v44 κ43) (fun κ45 => bo (fr κ45 x0 0) (fun o46 => ck (isK κ45 o46 9) (if (fi κ45 o46 5) = 0 then some (0, κ45) else bo (fr κ45 x0 0) (fun o48 => ck (isK κ45 o48 9) (bo (p_Tokens_takeSign N o48 59 κ45) (fun κ49 => k15 x0 κ49)))))))))))))
set_option maxHeartbeats 4000000 in
set_option maxRecDepth 100000 in
theorem t_RuleReader_readRule_100 {p : Program} {l : Launch} {e : Env} {s : State} {m : MethodId} {args : Array Value} {below : List Frame} {meth : Method} {c : Code} {D : va_G} {θ : Tc} {A : Nat → Prop} (K : KE p s m args c c_RuleReader_readRule 1 "ErrataRow$RuleReader" y_RuleReader_readRule (some .int) D θ A) (hN : NX s) (hr : meth.sig.returnType = (some .int)) (hlk : meth.locks = false) (N : Nat) (ρ : Int32 × Cz) (k15 : Nat → Cz → Option (Int32 × Cz)) (hk15 : ∀ (x0 : Nat) (κ : Cz), k15 x0 κ = some ρ → JE p l e (rmA 32 0 0) s m args below meth c D θ A 1 0 0 (QEi below args s D θ A 0 0 ρ) κ [(0, .ref x0)] [] 15) (x0 : Nat) (κ : Cz) (h : b_RuleReader_readRule_100 N k15 x0 κ = some ρ) : JE p l e (rmA 32 0 0) s m args below meth c D θ A 1 0 0 (QEi below args s D θ A 0 0 ρ) κ [(0, .ref x0)] [] 100 := by
  unfold b_RuleReader_readRule_100 at h
  refine j_aload_n K 0 d_RuleReader_readRule_100 rfl rfl ?_
  obtain ⟨q38, h⟩ := ck_e h
  refine eg_RuleReader_clauseEnds K ef_RuleReader_18 q38 d_RuleReader_readRule_101 ?_
  obtain ⟨o39, e39, h⟩ := bo_e h
  refine j_eqq e39 ?_
  refine j_aload_n K 0 d_RuleReader_readRule_104 rfl rfl ?_
  refine eg_RuleReader_clauses K ef_RuleReader_37 q38 d_RuleReader_readRule_105 ?_
  refine j_aload_n K 0 d_RuleReader_readRule_108 rfl rfl ?_
  refine eg_RuleReader_size K ef_RuleReader_27 q38 d_RuleReader_readRule_109 ?_
  obtain ⟨v40, e40, h⟩ := lt_e h
  refine j_eqi e40 ?_
  obtain ⟨q41, h⟩ := ck_e h
  obtain ⟨q42, h⟩ := ck_e h
  obtain ⟨κ43, e43, h⟩ := lt_e h
  refine e_iast K q41 (inb_e q42) d_RuleReader_readRule_112 e43 ?_
  refine j_aload_n K 0 d_RuleReader_readRule_113 rfl rfl ?_
  refine j_dup K d_RuleReader_readRule_114 rfl ?_
  refine eg_RuleReader_clauses K ef_RuleReader_37 (isK_sai e43 q38) d_RuleReader_readRule_115 ?_
  refine j_iconst (v := 1) K d_RuleReader_readRule_118 (by decide) ?_
  refine j_iadd K d_RuleReader_readRule_119 ?_
  obtain ⟨v44, e44, h⟩ := lt_e h
  refine j_eqi e44 ?_
  obtain ⟨κ45, e45, h⟩ := lt_e h
  refine ep_RuleReader_clauses K ef_RuleReader_37 (isK_sai e43 q38) d_RuleReader_readRule_120 e45 ?_
  refine j_aload_n K 0 d_RuleReader_readRule_123 rfl rfl ?_
  refine eg_RuleReader_tokens K ef_RuleReader_21 (isK_sfi e45 (isK_sai e43 q38)) d_RuleReader_readRule_124 ?_
  obtain ⟨o46, e46, h⟩ := bo_e h
  refine j_eqq e46 ?_
  obtain ⟨q47, h⟩ := ck_e h
  refine eg_Tokens_kind K ef_RuleReader_68 q47 d_RuleReader_readRule_127 ?_
  refine j_if_ne (tgt := 135) K d_RuleReader_readRule_130 (by decide) (fun q => ?_) (fun q => ?_)
  · have h := if_f h q
    refine j_aload_n K 0 d_RuleReader_readRule_135 rfl rfl ?_
    refine eg_RuleReader_tokens K ef_RuleReader_21 (isK_sfi e45 (isK_sai e43 q38)) d_RuleReader_readRule_136 ?_
    obtain ⟨o48, e48, h⟩ := bo_e h
    refine j_eqq e48 ?_
    refine j_bipush (v := 59) K d_RuleReader_readRule_139 (by decide) ?_
    obtain ⟨q50, h⟩ := ck_e h
    obtain ⟨κ49, e49, h⟩ := bo_e h
    refine ecallV_v K hN (c_Tokens_takeSign_ok l D θ N o48 59 κ45 _ e49) eG_RuleReader_71 eh_Tokens_takeSign (by decide) (rmA_ok (by decide) (by decide)) rfl q50 (by decide) rfl (st := []) (Nat.le_of_ble_eq_true rfl) rfl d_RuleReader_readRule_141 ⟨Nat.le_of_ble_eq_true rfl, Nat.le_of_ble_eq_true rfl⟩ ?_
    refine j_goto (tgt := 15) K d_RuleReader_readRule_144 (by decide) ?_
    exact hk15 x0 κ49 h
  · have h := if_t h q
    refine j_iconst (v := 0) K d_RuleReader_readRule_133 (by decide) ?_
    exact eret_i K h hr hlk d_RuleReader_readRule_134
def b_RuleReader_readRule_15 (N : Nat) : Nat → Nat → Cz → Option (Int32 × Cz)
  | 0, _, _ => none
  | n + 1, x0, κ => ck (isK κ x0 7) (if 12 ≤ (fi κ x0 5) then bo (fr κ x0 0) (fun o6 => bo (fr κ x0 0) (fun o7 => ck (isK κ o7 9) (bd (p_Tokens_isWord N o7 15 κ) (fun r8 κ8 => if r8 = 0 then ck (isK κ8 o6 9) (bo (p_Tokens_fail N o6 0 κ8) (fun κ10 => ck (isK κ10 x0 7) (bo (fr κ10 x0 0) (fun o13 => ck (isK κ10 o13 9) (some (fi κ10 o13 7, κ10)))))) else ck (isK κ8 o6 9) (bo (p_Tokens_fail N o6 4 κ8) (fun κ15 => ck (isK κ15 x0 7) (bo (fr κ15 x0 0) (fun o18 => ck (isK κ15 o18 9) (some (fi κ15 o18 7, κ15)))))))))) else bo (fr κ x0 0) (fun o20 => ck (isK κ o20 9) (bd (p_Tokens_isWord N o20 15 κ) (fun r21 κ21 => if r21 = 0 then ck (isK κ21 x0 7) (bo (fr κ21 x0 0) (fun o58 => ck (isK κ21 o58 9) (bo (p_Tokens_fail N o58 0 κ21) (fun κ59 => ck (isK κ59 x0 7) (bo (fr κ59 x0 0) (fun o62 => ck (isK κ59 o62 9) (some (fi κ59 o62 7, κ59)))))))) else ck (isK κ21 x0 7) (bo (fr κ21 x0 0) (fun o24 => ck (isK κ21 o24 9) (bo (p_Tokens_goOn N o24 κ21) (fun κ25 => ck (isK κ25 x0 7) (bo (p_RuleReader_readSum N x0 κ25) (fun κ27 => ck (isK κ27 x0 7) (bo (fr κ27 x0 2) (fun o30 => lt (fi κ27 x0 4) (fun v31 => ck (isK κ27 o30 20) (ck (inb (fi κ27 x0 5) (ln κ27 o30)) (lt (sai o30 (upd (ai κ27 o30) (fi κ27 x0 5).toNatClampNeg v31) κ27) (fun κ34 => bo (fr κ34 x0 0) (fun o35 => ck (isK κ34 o35 9) (bd (p_Tokens_isWord N o35 16 κ34) (fun r36 κ36 => if r36 = 0 then b_RuleReader_readRule_100 N (b_RuleReader_readRule_15 N n) x0 κ36 else ck (isK κ36 x0 7) (bo (fr κ36 x0 0) (fun o52 => ck (isK κ36 o52 9) (bo (p_Tokens_goOn N o52 κ36) (fun κ53 => ck (isK κ53 x0 7) (bo (p_RuleReader_readTest N x0 0 κ53) (fun κ55 => b_RuleReader_readRule_100 N (b_RuleReader_readRule_15 N n) x0 κ55)))))))))))))))))))))))))
set_option maxHeartbeats 4000000 in
set_option maxRecDepth 100000 in
theorem t_RuleReader_readRule_15 {p : Program} {l : Launch} {e : Env} {s : State} {m : MethodId} {args : Array Value} {below : List Frame} {meth : Method} {c : Code} {D : va_G} {θ : Tc} {A : Nat → Prop} (K : KE p s m args c c_RuleReader_readRule 1 "ErrataRow$RuleReader" y_RuleReader_readRule (some .int) D θ A) (hN : NX s) (hr : meth.sig.returnType = (some .int)) (hlk : meth.locks = false) (N : Nat) (ρ : Int32 × Cz) : ∀ (n : Nat) (x0 : Nat) (κ : Cz), b_RuleReader_readRule_15 N n x0 κ = some ρ → JE p l e (rmA 32 0 0) s m args below meth c D θ A 1 0 0 (QEi below args s D θ A 0 0 ρ) κ [(0, .ref x0)] [] 15 := by
  intro n
  induction n with
  | zero =>
    intro x0 κ h
    exact absurd h (by simp [b_RuleReader_readRule_15])
  | succ n ih =>
    intro x0 κ h
    rw [b_RuleReader_readRule_15] at h
    refine j_aload_n K 0 d_RuleReader_readRule_15 rfl rfl ?_
    obtain ⟨q5, h⟩ := ck_e h
    refine eg_RuleReader_clauses K ef_RuleReader_37 q5 d_RuleReader_readRule_16 ?_
    refine j_bipush (v := 12) K d_RuleReader_readRule_19 (by decide) ?_
    refine j_icmp_ge (tgt := 147) K d_RuleReader_readRule_21 (by decide) (fun q => ?_) (fun q => ?_)
    · have h := if_t h q
      refine j_aload_n K 0 d_RuleReader_readRule_147 rfl rfl ?_
      refine eg_RuleReader_tokens K ef_RuleReader_21 q5 d_RuleReader_readRule_148 ?_
      obtain ⟨o6, e6, h⟩ := bo_e h
      refine j_eqq e6 ?_
      refine j_aload_n K 0 d_RuleReader_readRule_151 rfl rfl ?_
      refine eg_RuleReader_tokens K ef_RuleReader_21 q5 d_RuleReader_readRule_152 ?_
      obtain ⟨o7, e7, h⟩ := bo_e h
      refine j_eqq e7 ?_
      refine j_bipush (v := 15) K d_RuleReader_readRule_155 (by decide) ?_
      obtain ⟨q9, h⟩ := ck_e h
      obtain ⟨r8, κ8, e8, h⟩ := bd_e h
      refine ecallV_i K hN (c_Tokens_isWord_ok l D θ N o7 15 κ _ e8) eG_RuleReader_48 eh_Tokens_isWord (by decide) (rmA_ok (by decide) (by decide)) rfl q9 (by decide) rfl (st := [.ref o6]) (Nat.le_of_ble_eq_true rfl) rfl d_RuleReader_readRule_157 ⟨Nat.le_of_ble_eq_true rfl, Nat.le_of_ble_eq_true rfl⟩ ?_
      refine j_if_eq (tgt := 167) K d_RuleReader_readRule_160 (by decide) (fun q => ?_) (fun q => ?_)
      · have h := if_t h q
        refine j_iconst (v := 0) K d_RuleReader_readRule_167 (by decide) ?_
        obtain ⟨q11, h⟩ := ck_e h
        obtain ⟨κ10, e10, h⟩ := bo_e h
        refine ecallV_v K hN (c_Tokens_fail_ok l D θ N o6 0 κ8 _ e10) eG_RuleReader_52 eh_Tokens_fail (by decide) (rmA_ok (by decide) (by decide)) rfl q11 (by decide) rfl (st := []) (Nat.le_of_ble_eq_true rfl) rfl d_RuleReader_readRule_168 ⟨Nat.le_of_ble_eq_true rfl, Nat.le_of_ble_eq_true rfl⟩ ?_
        refine j_aload_n K 0 d_RuleReader_readRule_171 rfl rfl ?_
        obtain ⟨q12, h⟩ := ck_e h
        refine eg_RuleReader_tokens K ef_RuleReader_21 q12 d_RuleReader_readRule_172 ?_
        obtain ⟨o13, e13, h⟩ := bo_e h
        refine j_eqq e13 ?_
        obtain ⟨q14, h⟩ := ck_e h
        refine eg_Tokens_fault K ef_RuleReader_56 q14 d_RuleReader_readRule_175 ?_
        exact eret_i K h hr hlk d_RuleReader_readRule_178
      · have h := if_f h q
        refine j_iconst (v := 4) K d_RuleReader_readRule_163 (by decide) ?_
        refine j_goto (tgt := 168) K d_RuleReader_readRule_164 (by decide) ?_
        obtain ⟨q16, h⟩ := ck_e h
        obtain ⟨κ15, e15, h⟩ := bo_e h
        refine ecallV_v K hN (c_Tokens_fail_ok l D θ N o6 4 κ8 _ e15) eG_RuleReader_52 eh_Tokens_fail (by decide) (rmA_ok (by decide) (by decide)) rfl q16 (by decide) rfl (st := []) (Nat.le_of_ble_eq_true rfl) rfl d_RuleReader_readRule_168 ⟨Nat.le_of_ble_eq_true rfl, Nat.le_of_ble_eq_true rfl⟩ ?_
        refine j_aload_n K 0 d_RuleReader_readRule_171 rfl rfl ?_
        obtain ⟨q17, h⟩ := ck_e h
        refine eg_RuleReader_tokens K ef_RuleReader_21 q17 d_RuleReader_readRule_172 ?_
        obtain ⟨o18, e18, h⟩ := bo_e h
        refine j_eqq e18 ?_
        obtain ⟨q19, h⟩ := ck_e h
        refine eg_Tokens_fault K ef_RuleReader_56 q19 d_RuleReader_readRule_175 ?_
        exact eret_i K h hr hlk d_RuleReader_readRule_178
    · have h := if_f h q
      refine j_aload_n K 0 d_RuleReader_readRule_24 rfl rfl ?_
      refine eg_RuleReader_tokens K ef_RuleReader_21 q5 d_RuleReader_readRule_25 ?_
      obtain ⟨o20, e20, h⟩ := bo_e h
      refine j_eqq e20 ?_
      refine j_bipush (v := 15) K d_RuleReader_readRule_28 (by decide) ?_
      obtain ⟨q22, h⟩ := ck_e h
      obtain ⟨r21, κ21, e21, h⟩ := bd_e h
      refine ecallV_i K hN (c_Tokens_isWord_ok l D θ N o20 15 κ _ e21) eG_RuleReader_48 eh_Tokens_isWord (by decide) (rmA_ok (by decide) (by decide)) rfl q22 (by decide) rfl (st := []) (Nat.le_of_ble_eq_true rfl) rfl d_RuleReader_readRule_30 ⟨Nat.le_of_ble_eq_true rfl, Nat.le_of_ble_eq_true rfl⟩ ?_
      refine j_if_ne (tgt := 52) K d_RuleReader_readRule_33 (by decide) (fun q => ?_) (fun q => ?_)
      · have h := if_f h q
        refine j_aload_n K 0 d_RuleReader_readRule_52 rfl rfl ?_
        obtain ⟨q23, h⟩ := ck_e h
        refine eg_RuleReader_tokens K ef_RuleReader_21 q23 d_RuleReader_readRule_53 ?_
        obtain ⟨o24, e24, h⟩ := bo_e h
        refine j_eqq e24 ?_
        obtain ⟨q26, h⟩ := ck_e h
        obtain ⟨κ25, e25, h⟩ := bo_e h
        refine ecallV_v K hN (c_Tokens_goOn_ok l D θ N o24 κ21 _ e25) eG_RuleReader_59 eh_Tokens_goOn (by decide) (rmA_ok (by decide) (by decide)) rfl q26 (by decide) rfl (st := []) (Nat.le_of_ble_eq_true rfl) rfl d_RuleReader_readRule_56 ⟨Nat.le_of_ble_eq_true rfl, Nat.le_of_ble_eq_true rfl⟩ ?_
        refine j_aload_n K 0 d_RuleReader_readRule_59 rfl rfl ?_
        obtain ⟨q28, h⟩ := ck_e h
        obtain ⟨κ27, e27, h⟩ := bo_e h
        refine ecallV_v K hN (c_RuleReader_readSum_ok l D θ N x0 κ25 _ e27) eG_RuleReader_62 eh_RuleReader_readSum (by decide) (rmA_ok (by decide) (by decide)) rfl q28 (by decide) rfl (st := []) (Nat.le_of_ble_eq_true rfl) rfl d_RuleReader_readRule_60 ⟨Nat.le_of_ble_eq_true rfl, Nat.le_of_ble_eq_true rfl⟩ ?_
        refine j_aload_n K 0 d_RuleReader_readRule_63 rfl rfl ?_
        obtain ⟨q29, h⟩ := ck_e h
        refine eg_RuleReader_sumEnds K ef_RuleReader_15 q29 d_RuleReader_readRule_64 ?_
        obtain ⟨o30, e30, h⟩ := bo_e h
        refine j_eqq e30 ?_
        refine j_aload_n K 0 d_RuleReader_readRule_67 rfl rfl ?_
        refine eg_RuleReader_clauses K ef_RuleReader_37 q29 d_RuleReader_readRule_68 ?_
        refine j_aload_n K 0 d_RuleReader_readRule_71 rfl rfl ?_
        refine eg_RuleReader_size K ef_RuleReader_27 q29 d_RuleReader_readRule_72 ?_
        obtain ⟨v31, e31, h⟩ := lt_e h
        refine j_eqi e31 ?_
        obtain ⟨q32, h⟩ := ck_e h
        obtain ⟨q33, h⟩ := ck_e h
        obtain ⟨κ34, e34, h⟩ := lt_e h
        refine e_iast K q32 (inb_e q33) d_RuleReader_readRule_75 e34 ?_
        refine j_aload_n K 0 d_RuleReader_readRule_76 rfl rfl ?_
        refine eg_RuleReader_tokens K ef_RuleReader_21 (isK_sai e34 q29) d_RuleReader_readRule_77 ?_
        obtain ⟨o35, e35, h⟩ := bo_e h
        refine j_eqq e35 ?_
        refine j_bipush (v := 16) K d_RuleReader_readRule_80 (by decide) ?_
        obtain ⟨q37, h⟩ := ck_e h
        obtain ⟨r36, κ36, e36, h⟩ := bd_e h
        refine ecallV_i K hN (c_Tokens_isWord_ok l D θ N o35 16 κ34 _ e36) eG_RuleReader_48 eh_Tokens_isWord (by decide) (rmA_ok (by decide) (by decide)) rfl q37 (by decide) rfl (st := []) (Nat.le_of_ble_eq_true rfl) rfl d_RuleReader_readRule_82 ⟨Nat.le_of_ble_eq_true rfl, Nat.le_of_ble_eq_true rfl⟩ ?_
        refine j_if_eq (tgt := 100) K d_RuleReader_readRule_85 (by decide) (fun q => ?_) (fun q => ?_)
        · have h := if_t h q
          exact t_RuleReader_readRule_100 K hN hr hlk N ρ (b_RuleReader_readRule_15 N n) ih x0 κ36 h
        · have h := if_f h q
          refine j_aload_n K 0 d_RuleReader_readRule_88 rfl rfl ?_
          obtain ⟨q51, h⟩ := ck_e h
          refine eg_RuleReader_tokens K ef_RuleReader_21 q51 d_RuleReader_readRule_89 ?_
          obtain ⟨o52, e52, h⟩ := bo_e h
          refine j_eqq e52 ?_
          obtain ⟨q54, h⟩ := ck_e h
          obtain ⟨κ53, e53, h⟩ := bo_e h
          refine ecallV_v K hN (c_Tokens_goOn_ok l D θ N o52 κ36 _ e53) eG_RuleReader_59 eh_Tokens_goOn (by decide) (rmA_ok (by decide) (by decide)) rfl q54 (by decide) rfl (st := []) (Nat.le_of_ble_eq_true rfl) rfl d_RuleReader_readRule_92 ⟨Nat.le_of_ble_eq_true rfl, Nat.le_of_ble_eq_true rfl⟩ ?_
          refine j_aload_n K 0 d_RuleReader_readRule_95 rfl rfl ?_
          refine j_iconst (v := 0) K d_RuleReader_readRule_96 (by decide) ?_
          obtain ⟨q56, h⟩ := ck_e h
          obtain ⟨κ55, e55, h⟩ := bo_e h
          refine ecallV_v K hN (c_RuleReader_readTest_ok l D θ N x0 0 κ53 _ e55) eG_RuleReader_65 eh_RuleReader_readTest (by decide) (rmA_ok (by decide) (by decide)) rfl q56 (by decide) rfl (st := []) (Nat.le_of_ble_eq_true rfl) rfl d_RuleReader_readRule_97 ⟨Nat.le_of_ble_eq_true rfl, Nat.le_of_ble_eq_true rfl⟩ ?_
          exact t_RuleReader_readRule_100 K hN hr hlk N ρ (b_RuleReader_readRule_15 N n) ih x0 κ55 h
      · have h := if_t h q
        refine j_aload_n K 0 d_RuleReader_readRule_36 rfl rfl ?_
        obtain ⟨q57, h⟩ := ck_e h
        refine eg_RuleReader_tokens K ef_RuleReader_21 q57 d_RuleReader_readRule_37 ?_
        obtain ⟨o58, e58, h⟩ := bo_e h
        refine j_eqq e58 ?_
        refine j_iconst (v := 0) K d_RuleReader_readRule_40 (by decide) ?_
        obtain ⟨q60, h⟩ := ck_e h
        obtain ⟨κ59, e59, h⟩ := bo_e h
        refine ecallV_v K hN (c_Tokens_fail_ok l D θ N o58 0 κ21 _ e59) eG_RuleReader_52 eh_Tokens_fail (by decide) (rmA_ok (by decide) (by decide)) rfl q60 (by decide) rfl (st := []) (Nat.le_of_ble_eq_true rfl) rfl d_RuleReader_readRule_41 ⟨Nat.le_of_ble_eq_true rfl, Nat.le_of_ble_eq_true rfl⟩ ?_
        refine j_aload_n K 0 d_RuleReader_readRule_44 rfl rfl ?_
        obtain ⟨q61, h⟩ := ck_e h
        refine eg_RuleReader_tokens K ef_RuleReader_21 q61 d_RuleReader_readRule_45 ?_
        obtain ⟨o62, e62, h⟩ := bo_e h
        refine j_eqq e62 ?_
        obtain ⟨q63, h⟩ := ck_e h
        refine eg_Tokens_fault K ef_RuleReader_56 q63 d_RuleReader_readRule_48 ?_
        exact eret_i K h hr hlk d_RuleReader_readRule_51
def p_RuleReader_readRule (N : Nat) (this : Nat) (κ : Cz) : Option (Int32 × Cz) := ck (isK κ this 7) (lt (sfi this 4 0 κ) (fun κ2 => lt (sfi this 5 0 κ2) (fun κ3 => lt (sfi this 6 0 κ3) (fun κ4 => b_RuleReader_readRule_15 N N this κ4))))
set_option maxHeartbeats 4000000 in
set_option maxRecDepth 100000 in
theorem c_RuleReader_readRule_ok (l : Launch) (D : va_G) (θ : Tc) (N : Nat) (this : Nat) (κ : Cz) (ρ : Int32 × Cz) (h : p_RuleReader_readRule N this κ = some ρ) : CEi l D θ y_RuleReader_readRule c_RuleReader_readRule 1 (some .int) 32 0 0 [.ref this] κ ρ := by
  intro sz
  refine e_met l [.ref this] (by decide +kernel) (Nat.le_of_ble_eq_true rfl) ?_
  intro p e s m args below meth c K hN hr hlk hnm hs
  generalize va_A (wE θ κ) sz = A at K ⊢
  have K : KE p s m args c c_RuleReader_readRule 1 "ErrataRow$RuleReader" y_RuleReader_readRule (some .int) D θ A := K
  show JE p l e (rmA 32 0 0) s m args below meth c D θ A 1 0 0 (QEi below args s D θ A 0 0 ρ) κ [(0, .ref this)] [] 0
  unfold p_RuleReader_readRule at h
  refine j_aload_n K 0 d_RuleReader_readRule_0 rfl rfl ?_
  refine j_iconst (v := 0) K d_RuleReader_readRule_1 (by decide) ?_
  obtain ⟨q1, h⟩ := ck_e h
  obtain ⟨κ2, e2, h⟩ := lt_e h
  refine ep_RuleReader_size K ef_RuleReader_27 q1 d_RuleReader_readRule_2 e2 ?_
  refine j_aload_n K 0 d_RuleReader_readRule_5 rfl rfl ?_
  refine j_iconst (v := 0) K d_RuleReader_readRule_6 (by decide) ?_
  obtain ⟨κ3, e3, h⟩ := lt_e h
  refine ep_RuleReader_clauses K ef_RuleReader_37 (isK_sfi e2 q1) d_RuleReader_readRule_7 e3 ?_
  refine j_aload_n K 0 d_RuleReader_readRule_10 rfl rfl ?_
  refine j_iconst (v := 0) K d_RuleReader_readRule_11 (by decide) ?_
  obtain ⟨κ4, e4, h⟩ := lt_e h
  refine ep_RuleReader_values K ef_RuleReader_43 (isK_sfi e3 (isK_sfi e2 q1)) d_RuleReader_readRule_12 e4 ?_
  exact t_RuleReader_readRule_15 K hN hr hlk N ρ N this κ4 h
