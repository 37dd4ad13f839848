def b_ErrataRow_look_70 (N : Nat) : Nat → Nat → Int32 → Int32 → Int32 → Int32 → Int32 → Cz → Option (Int32 × Cz)
  | 0, _, _, _, _, _, _, _ => none
  | n + 1, x0, x2, x3, x4, x5, x6, κ => ck (isK κ x0 11) (bo (fr κ x0 7) (fun o16 => ck (isK κ o16 10) (bo (fr κ o16 0) (fun o18 => ck (isK κ o18 0) (if (fi κ o18 2) ≤ x6 then if x2 = 0 then some (x4, κ) else some (x5, κ) else bd (p_ErrataRow_mostAlike N x0 x6 x3 κ) (fun r20 κ20 => if x5 ≤ r20 then lt (x6 + 1) (fun v21 => b_ErrataRow_look_70 N n x0 x2 x3 x4 x5 v21 κ20) else lt (x6 + 1) (fun v22 => b_ErrataRow_look_70 N n x0 x2 x3 x6 r20 v22 κ20)))))))
set_option maxHeartbeats 4000000 in
set_option maxRecDepth 100000 in
theorem t_ErrataRow_look_70 {p : Program} {l : Launch} {e : Env} {s : State} {m : MethodId} {args : Array Value} {below : List Frame} {meth : Method} {c : Code} {D : va_G} {θ : Tc} {A : Nat → Prop} (K : KE p s m args c c_ErrataRow_look 8 "ErrataRow" y_ErrataRow_look (some .int) D θ A) (hN : NX s) (hr : meth.sig.returnType = (some .int)) (hlk : meth.locks = false) (N : Nat) (ρ : Int32 × Cz) : ∀ (n : Nat) (x0 : Nat) (x2 : Int32) (x3 : Int32) (x4 : Int32) (x5 : Int32) (x6 : Int32) (κ : Cz), b_ErrataRow_look_70 N n x0 x2 x3 x4 x5 x6 κ = some ρ → JE p l e (rmA 8 0 0) s m args below meth c D θ A 8 0 0 (QEi below args s D θ A 0 0 ρ) κ [(0, .ref x0), (2, .int x2), (3, .int x3), (4, .int x4), (5, .int x5), (6, .int x6)] [] 70 := by
  intro n
  induction n with
  | zero =>
    intro x0 x2 x3 x4 x5 x6 κ h
    exact absurd h (by simp [b_ErrataRow_look_70])
  | succ n ih =>
    intro x0 x2 x3 x4 x5 x6 κ h
    rw [b_ErrataRow_look_70] at h
    refine j_iload K 5 d_ErrataRow_look_70 rfl ?_
    refine j_aload_n K 0 d_ErrataRow_look_72 rfl rfl ?_
    obtain ⟨q15, h⟩ := ck_e h
    refine eg_ErrataRow_world K ef_ErrataRow_45 q15 d_ErrataRow_look_73 ?_
    obtain ⟨o16, e16, h⟩ := bo_e h
    refine j_eqq e16 ?_
    obtain ⟨q17, h⟩ := ck_e h
    refine eg_World_book K ef_ErrataRow_62 q17 d_ErrataRow_look_76 ?_
    obtain ⟨o18, e18, h⟩ := bo_e h
    refine j_eqq e18 ?_
    obtain ⟨q19, h⟩ := ck_e h
    refine eg_Book_letters K ef_ErrataRow_123 q19 d_ErrataRow_look_79 ?_
    refine j_icmp_ge (tgt := 115) K d_ErrataRow_look_82 (by decide) (fun q => ?_) (fun q => ?_)
    · have h := if_t h q
      refine j_iload_n K 1 d_ErrataRow_look_115 rfl rfl ?_
      refine j_if_ne (tgt := 124) K d_ErrataRow_look_116 (by decide) (fun q => ?_) (fun q => ?_)
      · have h := if_f h q
        refine j_iload K 4 d_ErrataRow_look_124 rfl ?_
        exact eret_i K h hr hlk d_ErrataRow_look_126
      · have h := if_t h q
        refine j_iload K 3 d_ErrataRow_look_119 rfl ?_
        refine j_goto (tgt := 126) K d_ErrataRow_look_121 (by decide) ?_
        exact eret_i K h hr hlk d_ErrataRow_look_126
    · have h := if_f h q
      refine j_aload_n K 0 d_ErrataRow_look_85 rfl rfl ?_
      refine j_iload K 5 d_ErrataRow_look_86 rfl ?_
      refine j_iload_n K 2 d_ErrataRow_look_88 rfl rfl ?_
      obtain ⟨r20, κ20, e20, h⟩ := bd_e h
      refine ecallV_i K hN (c_ErrataRow_mostAlike_ok l D θ N x0 x6 x3 κ _ e20) eG_ErrataRow_346 eh_ErrataRow_mostAlike (by decide) (rmA_ok (by decide) (by decide)) rfl q15 (by decide) rfl (st := []) (Nat.le_of_ble_eq_true rfl) rfl d_ErrataRow_look_89 ⟨Nat.le_of_ble_eq_true rfl, Nat.le_of_ble_eq_true rfl⟩ ?_
      refine j_istore (lv' := [(7, .int r20), (0, .ref x0), (2, .int x2), (3, .int x3), (4, .int x4), (5, .int x5), (6, .int x6)]) K d_ErrataRow_look_92 (by decide) rfl ?_
      refine j_iload K 0 d_ErrataRow_look_94 rfl ?_
      refine j_iload K 5 d_ErrataRow_look_96 rfl ?_
      refine j_icmp_ge (tgt := 109) K d_ErrataRow_look_98 (by decide) (fun q => ?_) (fun q => ?_)
      · have h := if_t h q
        obtain ⟨v21, e21, h⟩ := lt_e h
        refine j_iinc (k := 6) (v := v21) (lv' := [(6, .int v21), (7, .int r20), (0, .ref x0), (2, .int x2), (3, .int x3), (4, .int x4), (5, .int x5)]) K d_ErrataRow_look_109 rfl (by rw [e21]; rfl) (by decide) rfl ?_
        refine j_goto (tgt := 70) K d_ErrataRow_look_112 (by decide) ?_
        refine j_sub [2, 3, 4, 5, 6, 0] rfl ?_
        exact ih x0 x2 x3 x4 x5 v21 κ20 h
      · have h := if_f h q
        refine j_iload K 0 d_ErrataRow_look_101 rfl ?_
        refine j_istore (lv' := [(5, .int r20), (7, .int r20), (0, .ref x0), (2, .int x2), (3, .int x3), (4, .int x4), (6, .int x6)]) K d_ErrataRow_look_103 (by decide) rfl ?_
        refine j_iload K 6 d_ErrataRow_look_105 rfl ?_
        refine j_istore (lv' := [(4, .int x6), (5, .int r20), (7, .int r20), (0, .ref x0), (2, .int x2), (3, .int x3), (6, .int x6)]) K d_ErrataRow_look_107 (by decide) rfl ?_
        obtain ⟨v22, e22, h⟩ := lt_e h
        refine j_iinc (k := 6) (v := v22) (lv' := [(6, .int v22), (4, .int x6), (5, .int r20), (7, .int r20), (0, .ref x0), (2, .int x2), (3, .int x3)]) K d_ErrataRow_look_109 rfl (by rw [e22]; rfl) (by decide) rfl ?_
        refine j_goto (tgt := 70) K d_ErrataRow_look_112 (by decide) ?_
        refine j_sub [4, 5, 6, 1, 2, 0] rfl ?_
        exact ih x0 x2 x3 x6 r20 v22 κ20 h
def p_ErrataRow_look (N : Nat) (this : Nat) (a1 : Int32) (a2 : Int32) (κ : Cz) : Option (Int32 × Cz) := ck (isK κ this 11) (bo (fr κ this 7) (fun o2 => ck (isK κ o2 10) (bo (fr κ o2 0) (fun o4 => ck (isK κ o4 0) (if (fi κ o4 0) = 0 then some ((-1), κ) else bd (p_ErrataRow_within N a1 0 60 κ) (fun r6 κ6 => if r6 = 0 then some ((-1), κ6) else bd (p_ErrataRow_within N a2 0 1 κ6) (fun r7 κ7 => if r7 = 0 then some ((-1), κ7) else ck (isK κ7 this 11) (bd (p_ErrataRow_keepPutsOfRuled N this a1 κ7) (fun r8 κ8 => if r8 = 0 then some ((-2), κ8) else ck (isK κ8 this 11) (bo (fr κ8 this 7) (fun o11 => ck (isK κ8 o11 10) (bo (fr κ8 o11 0) (fun o13 => ck (isK κ8 o13 0) (if (fi κ8 o13 2) = 0 then some ((-2), κ8) else b_ErrataRow_look_70 N N this a2 r8 (-1) 8 0 κ8))))))))))))))
set_option maxHeartbeats 4000000 in
set_option maxRecDepth 100000 in
theorem c_ErrataRow_look_ok (l : Launch) (D : va_G) (θ : Tc) (N : Nat) (this : Nat) (a1 : Int32) (a2 : Int32) (κ : Cz) (ρ : Int32 × Cz) (h : p_ErrataRow_look N this a1 a2 κ = some ρ) : CEi l D θ y_ErrataRow_look c_ErrataRow_look 8 (some .int) 8 0 0 [.ref this, .int a1, .int a2] κ ρ := by
  intro sz
  refine e_met l [.ref this, .int a1, .int a2] (by decide +kernel) (Nat.le_of_ble_eq_true rfl) ?_
  intro p e s m args below meth c K hN hr hlk hnm hs
  generalize va_A (wE θ κ) sz = A at K ⊢
  have K : KE p s m args c c_ErrataRow_look 8 "ErrataRow" y_ErrataRow_look (some .int) D θ A := K
  show JE p l e (rmA 8 0 0) s m args below meth c D θ A 8 0 0 (QEi below args s D θ A 0 0 ρ) κ [(0, .ref this), (1, .int a1), (2, .int a2)] [] 0
  unfold p_ErrataRow_look at h
  refine j_aload_n K 0 d_ErrataRow_look_0 rfl rfl ?_
  obtain ⟨q1, h⟩ := ck_e h
  refine eg_ErrataRow_world K ef_ErrataRow_45 q1 d_ErrataRow_look_1 ?_
  obtain ⟨o2, e2, h⟩ := bo_e h
  refine j_eqq e2 ?_
  obtain ⟨q3, h⟩ := ck_e h
  refine eg_World_book K ef_ErrataRow_62 q3 d_ErrataRow_look_4 ?_
  obtain ⟨o4, e4, h⟩ := bo_e h
  refine j_eqq e4 ?_
  obtain ⟨q5, h⟩ := ck_e h
  refine eg_Book_told K ef_ErrataRow_160 q5 d_ErrataRow_look_7 ?_
  refine j_if_eq (tgt := 32) K d_ErrataRow_look_10 (by decide) (fun q => ?_) (fun q => ?_)
  · have h := if_t h q
    refine j_iconst (v := (-1)) K d_ErrataRow_look_32 (by decide) ?_
    exact eret_i K h hr hlk d_ErrataRow_look_33
  · have h := if_f h q
    refine j_iload_n K 1 d_ErrataRow_look_13 rfl rfl ?_
    refine j_iconst (v := 0) K d_ErrataRow_look_14 (by decide) ?_
    refine j_bipush (v := 60) K d_ErrataRow_look_15 (by decide) ?_
    obtain ⟨r6, κ6, e6, h⟩ := bd_e h
    refine ecallS_i K hN (c_ErrataRow_within_ok l D θ N a1 0 60 κ _ e6) eG_ErrataRow_166 eh_ErrataRow_within (by decide) (rmA_ok (by decide) (by decide)) rfl (st := []) (Nat.le_of_ble_eq_true rfl) rfl d_ErrataRow_look_17 ⟨Nat.le_of_ble_eq_true rfl, Nat.le_of_ble_eq_true rfl⟩ ?_
    refine j_if_eq (tgt := 32) K d_ErrataRow_look_20 (by decide) (fun q => ?_) (fun q => ?_)
    · have h := if_t h q
      refine j_iconst (v := (-1)) K d_ErrataRow_look_32 (by decide) ?_
      exact eret_i K h hr hlk d_ErrataRow_look_33
    · have h := if_f h q
      refine j_iload_n K 2 d_ErrataRow_look_23 rfl rfl ?_
      refine j_iconst (v := 0) K d_ErrataRow_look_24 (by decide) ?_
      refine j_iconst (v := 1) K d_ErrataRow_look_25 (by decide) ?_
      obtain ⟨r7, κ7, e7, h⟩ := bd_e h
      refine ecallS_i K hN (c_ErrataRow_within_ok l D θ N a2 0 1 κ6 _ e7) eG_ErrataRow_166 eh_ErrataRow_within (by decide) (rmA_ok (by decide) (by decide)) rfl (st := []) (Nat.le_of_ble_eq_true rfl) rfl d_ErrataRow_look_26 ⟨Nat.le_of_ble_eq_true rfl, Nat.le_of_ble_eq_true rfl⟩ ?_
      refine j_if_ne (tgt := 34) K d_ErrataRow_look_29 (by decide) (fun q => ?_) (fun q => ?_)
      · have h := if_f h q
        refine j_aload_n K 0 d_ErrataRow_look_34 rfl rfl ?_
        refine j_iload_n K 1 d_ErrataRow_look_35 rfl rfl ?_
        obtain ⟨q9, h⟩ := ck_e h
        obtain ⟨r8, κ8, e8, h⟩ := bd_e h
        refine ecallV_i K hN (c_ErrataRow_keepPutsOfRuled_ok l D θ N this a1 κ7 _ e8) eG_ErrataRow_343 eh_ErrataRow_keepPutsOfRuled (by decide) (rmA_ok (by decide) (by decide)) rfl q9 (by decide) rfl (st := []) (Nat.le_of_ble_eq_true rfl) rfl d_ErrataRow_look_36 ⟨Nat.le_of_ble_eq_true rfl, Nat.le_of_ble_eq_true rfl⟩ ?_
        refine j_istore_n (lv' := [(3, .int r8), (0, .ref this), (1, .int a1), (2, .int a2)]) K d_ErrataRow_look_39 rfl (by decide) rfl ?_
        refine j_iload_n K 0 d_ErrataRow_look_40 rfl rfl ?_
        refine j_if_eq (tgt := 57) K d_ErrataRow_look_41 (by decide) (fun q => ?_) (fun q => ?_)
        · have h := if_t h q
          refine j_bipush (v := (-2)) K d_ErrataRow_look_57 (by decide) ?_
          exact eret_i K h hr hlk d_ErrataRow_look_59
        · have h := if_f h q
          refine j_aload_n K 1 d_ErrataRow_look_44 rfl rfl ?_
          obtain ⟨q10, h⟩ := ck_e h
          refine eg_ErrataRow_world K ef_ErrataRow_45 q10 d_ErrataRow_look_45 ?_
          obtain ⟨o11, e11, h⟩ := bo_e h
          refine j_eqq e11 ?_
          obtain ⟨q12, h⟩ := ck_e h
          refine eg_World_book K ef_ErrataRow_62 q12 d_ErrataRow_look_48 ?_
          obtain ⟨o13, e13, h⟩ := bo_e h
          refine j_eqq e13 ?_
          obtain ⟨q14, h⟩ := ck_e h
          refine eg_Book_letters K ef_ErrataRow_123 q14 d_ErrataRow_look_51 ?_
          refine j_if_ne (tgt := 60) K d_ErrataRow_look_54 (by decide) (fun q => ?_) (fun q => ?_)
          · have h := if_f h q
            refine j_iconst (v := (-1)) K d_ErrataRow_look_60 (by decide) ?_
            refine j_istore (lv' := [(4, .int (-1)), (3, .int r8), (0, .ref this), (1, .int a1), (2, .int a2)]) K d_ErrataRow_look_61 (by decide) rfl ?_
            refine j_bipush (v := 8) K d_ErrataRow_look_63 (by decide) ?_
            refine j_istore (lv' := [(5, .int 8), (4, .int (-1)), (3, .int r8), (0, .ref this), (1, .int a1), (2, .int a2)]) K d_ErrataRow_look_65 (by decide) rfl ?_
            refine j_iconst (v := 0) K d_ErrataRow_look_67 (by decide) ?_
            refine j_istore (lv' := [(6, .int 0), (5, .int 8), (4, .int (-1)), (3, .int r8), (0, .ref this), (1, .int a1), (2, .int a2)]) K d_ErrataRow_look_68 (by decide) rfl ?_
            refine j_sub [4, 6, 3, 2, 1, 0] rfl ?_
            exact t_ErrataRow_look_70 K hN hr hlk N ρ N this a2 r8 (-1) 8 0 κ8 h
          · have h := if_t h q
            refine j_bipush (v := (-2)) K d_ErrataRow_look_57 (by decide) ?_
            exact eret_i K h hr hlk d_ErrataRow_look_59
      · have h := if_t h q
        refine j_iconst (v := (-1)) K d_ErrataRow_look_32 (by decide) ?_
        exact eret_i K h hr hlk d_ErrataRow_look_33
