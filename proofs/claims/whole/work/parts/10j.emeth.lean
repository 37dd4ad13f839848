def p_ErrataRow_allRight (N : Nat) (this : Nat) (κ : Cz) : Option (Int32 × Cz) := ck (isK κ this 11) (bo (fr κ this 7) (fun o2 => ck (isK κ o2 10) (bo (fr κ o2 0) (fun o4 => ck (isK κ o4 0) (if (fi κ o4 0) = 0 then some ((-1), κ) else bd (p_ErrataRow_firstWithoutWrong N this (-1) κ) (fun r6 κ6 => some (r6, κ6)))))))
set_option maxHeartbeats 4000000 in
set_option maxRecDepth 100000 in
theorem c_ErrataRow_allRight_ok (l : Launch) (D : va_G) (θ : Tc) (N : Nat) (this : Nat) (κ : Cz) (ρ : Int32 × Cz) (h : p_ErrataRow_allRight N this κ = some ρ) : CEi l D θ y_ErrataRow_allRight c_ErrataRow_allRight 1 (some .int) 7 0 0 [.ref this] κ ρ := by
  intro sz
  refine e_met l [.ref this] (by decide +kernel) (Nat.le_of_ble_eq_true rfl) ?_
  intro p e s m args below meth c K hN hr hlk hnm hs
  generalize va_A (wE θ κ) sz = A at K ⊢
  have K : KE p s m args c c_ErrataRow_allRight 1 "ErrataRow" y_ErrataRow_allRight (some .int) D θ A := K
  show JE p l e (rmA 7 0 0) s m args below meth c D θ A 1 0 0 (QEi below args s D θ A 0 0 ρ) κ [(0, .ref this)] [] 0
  unfold p_ErrataRow_allRight at h
  refine j_aload_n K 0 d_ErrataRow_allRight_0 rfl rfl ?_
  obtain ⟨q1, h⟩ := ck_e h
  refine eg_ErrataRow_world K ef_ErrataRow_45 q1 d_ErrataRow_allRight_1 ?_
  obtain ⟨o2, e2, h⟩ := bo_e h
  refine j_eqq e2 ?_
  obtain ⟨q3, h⟩ := ck_e h
  refine eg_World_book K ef_ErrataRow_62 q3 d_ErrataRow_allRight_4 ?_
  obtain ⟨o4, e4, h⟩ := bo_e h
  refine j_eqq e4 ?_
  obtain ⟨q5, h⟩ := ck_e h
  refine eg_Book_told K ef_ErrataRow_160 q5 d_ErrataRow_allRight_7 ?_
  refine j_if_eq (tgt := 21) K d_ErrataRow_allRight_10 (by decide) (fun q => ?_) (fun q => ?_)
  · have h := if_t h q
    refine j_iconst (v := (-1)) K d_ErrataRow_allRight_21 (by decide) ?_
    exact eret_i K h hr hlk d_ErrataRow_allRight_22
  · have h := if_f h q
    refine j_aload_n K 0 d_ErrataRow_allRight_13 rfl rfl ?_
    refine j_iconst (v := (-1)) K d_ErrataRow_allRight_14 (by decide) ?_
    obtain ⟨r6, κ6, e6, h⟩ := bd_e h
    refine ecallV_i K hN (c_ErrataRow_firstWithoutWrong_ok l D θ N this (-1) κ _ e6) eG_ErrataRow_258 eh_ErrataRow_firstWithoutWrong (by decide) (rmA_ok (by decide) (by decide)) rfl q1 (by decide) rfl (st := []) (Nat.le_of_ble_eq_true rfl) rfl d_ErrataRow_allRight_15 ⟨Nat.le_of_ble_eq_true rfl, Nat.le_of_ble_eq_true rfl⟩ ?_
    refine j_goto (tgt := 22) K d_ErrataRow_allRight_18 (by decide) ?_
    exact eret_i K h hr hlk d_ErrataRow_allRight_22
def p_ErrataRow_firstRight (N : Nat) (this : Nat) (a1 : Int32) (κ : Cz) : Option (Int32 × Cz) := ck (isK κ this 11) (bd (p_ErrataRow_isLetter N this a1 κ) (fun r1 κ1 => if r1 = 0 then some ((-1), κ1) else ck (isK κ1 this 11) (bd (p_ErrataRow_firstWithoutWrong N this ((1 : Int32) <<< (a1 &&& 31)) κ1) (fun r3 κ3 => some (r3, κ3)))))
set_option maxHeartbeats 4000000 in
set_option maxRecDepth 100000 in
theorem c_ErrataRow_firstRight_ok (l : Launch) (D : va_G) (θ : Tc) (N : Nat) (this : Nat) (a1 : Int32) (κ : Cz) (ρ : Int32 × Cz) (h : p_ErrataRow_firstRight N this a1 κ = some ρ) : CEi l D θ y_ErrataRow_firstRight c_ErrataRow_firstRight 2 (some .int) 7 0 0 [.ref this, .int a1] κ ρ := by
  intro sz
  refine e_met l [.ref this, .int a1] (by decide +kernel) (Nat.le_of_ble_eq_true rfl) ?_
  intro p e s m args below meth c K hN hr hlk hnm hs
  generalize va_A (wE θ κ) sz = A at K ⊢
  have K : KE p s m args c c_ErrataRow_firstRight 2 "ErrataRow" y_ErrataRow_firstRight (some .int) D θ A := K
  show JE p l e (rmA 7 0 0) s m args below meth c D θ A 2 0 0 (QEi below args s D θ A 0 0 ρ) κ [(0, .ref this), (1, .int a1)] [] 0
  unfold p_ErrataRow_firstRight at h
  refine j_aload_n K 0 d_ErrataRow_firstRight_0 rfl rfl ?_
  refine j_iload_n K 1 d_ErrataRow_firstRight_1 rfl rfl ?_
  obtain ⟨q2, h⟩ := ck_e h
  obtain ⟨r1, κ1, e1, h⟩ := bd_e h
  refine ecallV_i K hN (c_ErrataRow_isLetter_ok l D θ N this a1 κ _ e1) eG_ErrataRow_141 eh_ErrataRow_isLetter (by decide) (rmA_ok (by decide) (by decide)) rfl q2 (by decide) rfl (st := []) (Nat.le_of_ble_eq_true rfl) rfl d_ErrataRow_firstRight_2 ⟨Nat.le_of_ble_eq_true rfl, Nat.le_of_ble_eq_true rfl⟩ ?_
  refine j_if_eq (tgt := 18) K d_ErrataRow_firstRight_5 (by decide) (fun q => ?_) (fun q => ?_)
  · have h := if_t h q
    refine j_iconst (v := (-1)) K d_ErrataRow_firstRight_18 (by decide) ?_
    exact eret_i K h hr hlk d_ErrataRow_firstRight_19
  · have h := if_f h q
    refine j_aload_n K 0 d_ErrataRow_firstRight_8 rfl rfl ?_
    refine j_iconst (v := 1) K d_ErrataRow_firstRight_9 (by decide) ?_
    refine j_iload_n K 1 d_ErrataRow_firstRight_10 rfl rfl ?_
    refine j_ishl K d_ErrataRow_firstRight_11 ?_
    obtain ⟨q4, h⟩ := ck_e h
    obtain ⟨r3, κ3, e3, h⟩ := bd_e h
    refine ecallV_i K hN (c_ErrataRow_firstWithoutWrong_ok l D θ N this ((1 : Int32) <<< (a1 &&& 31)) κ1 _ e3) eG_ErrataRow_258 eh_ErrataRow_firstWithoutWrong (by decide) (rmA_ok (by decide) (by decide)) rfl q4 (by decide) rfl (st := []) (Nat.le_of_ble_eq_true rfl) rfl d_ErrataRow_firstRight_12 ⟨Nat.le_of_ble_eq_true rfl, Nat.le_of_ble_eq_true rfl⟩ ?_
    refine j_goto (tgt := 19) K d_ErrataRow_firstRight_15 (by decide) ?_
    exact eret_i K h hr hlk d_ErrataRow_firstRight_19
def b_ErrataRow_wrongAhead_29 (N : Nat) (x0 : Nat) (x3 : Int32) (κ : Cz) : Option (Int32 × Cz) := ck (isK κ x0 11) (bo (p_ErrataRow_goOn N x0 x3 κ) (fun κ8 => ck (isK κ8 x0 11) (bo (fr κ8 x0 10) (fun o11 => bo (fr κ8 x0 12) (fun o12 => ck (isK κ8 o11 4) (bd (p_Press_howManyWrong N o11 o12 κ8) (fun r13 κ13 => some (r13, κ13))))))))
set_option maxHeartbeats 4000000 in
set_option maxRecDepth 100000 in
theorem t_ErrataRow_wrongAhead_29 {p : Program} {l : Launch} {e : Env} {s : State} {m : MethodId} {args : Array Value} {below : List Frame} {meth : Method} {c : Code} {D : va_G} {θ : Tc} {A : Nat → Prop} (K : KE p s m args c c_ErrataRow_wrongAhead 4 "ErrataRow" y_ErrataRow_wrongAhead (some .int) D θ A) (hN : NX s) (hr : meth.sig.returnType = (some .int)) (hlk : meth.locks = false) (N : Nat) (ρ : Int32 × Cz) (x0 : Nat) (x3 : Int32) (κ : Cz) (h : b_ErrataRow_wrongAhead_29 N x0 x3 κ = some ρ) : JE p l e (rmA 7 0 0) s m args below meth c D θ A 4 0 0 (QEi below args s D θ A 0 0 ρ) κ [(0, .ref x0), (3, .int x3)] [] 29 := by
  unfold b_ErrataRow_wrongAhead_29 at h
  refine j_aload_n K 0 d_ErrataRow_wrongAhead_29 rfl rfl ?_
  refine j_iload_n K 1 d_ErrataRow_wrongAhead_30 rfl rfl ?_
  obtain ⟨q9, h⟩ := ck_e h
  obtain ⟨κ8, e8, h⟩ := bo_e h
  refine ecallV_v K hN (c_ErrataRow_goOn_ok l D θ N x0 x3 κ _ e8) eG_ErrataRow_255 eh_ErrataRow_goOn (by decide) (rmA_ok (by decide) (by decide)) rfl q9 (by decide) rfl (st := []) (Nat.le_of_ble_eq_true rfl) rfl d_ErrataRow_wrongAhead_31 ⟨Nat.le_of_ble_eq_true rfl, Nat.le_of_ble_eq_true rfl⟩ ?_
  refine j_aload_n K 0 d_ErrataRow_wrongAhead_34 rfl rfl ?_
  obtain ⟨q10, h⟩ := ck_e h
  refine eg_ErrataRow_press K ef_ErrataRow_69 q10 d_ErrataRow_wrongAhead_35 ?_
  obtain ⟨o11, e11, h⟩ := bo_e h
  refine j_eqq e11 ?_
  refine j_aload_n K 0 d_ErrataRow_wrongAhead_38 rfl rfl ?_
  refine eg_ErrataRow_trial K ef_ErrataRow_85 q10 d_ErrataRow_wrongAhead_39 ?_
  obtain ⟨o12, e12, h⟩ := bo_e h
  refine j_eqq e12 ?_
  obtain ⟨q14, h⟩ := ck_e h
  obtain ⟨r13, κ13, e13, h⟩ := bd_e h
  refine ecallV_i K hN (c_Press_howManyWrong_ok l D θ N o11 o12 κ8 _ e13) eG_ErrataRow_225 eh_Press_howManyWrong (by decide) (rmA_ok (by decide) (by decide)) rfl q14 (by decide) rfl (st := []) (Nat.le_of_ble_eq_true rfl) rfl d_ErrataRow_wrongAhead_42 ⟨Nat.le_of_ble_eq_true rfl, Nat.le_of_ble_eq_true rfl⟩ ?_
  exact eret_i K h hr hlk d_ErrataRow_wrongAhead_45
def p_ErrataRow_wrongAhead (N : Nat) (this : Nat) (a1 : Int32) (a2 : Int32) (a3 : Int32) (κ : Cz) : Option (Int32 × Cz) := ck (isK κ this 11) (bo (fr κ this 7) (fun o2 => ck (isK κ o2 10) (bo (fr κ o2 1) (fun o4 => bo (p_ErrataRow_startFrom N this o4 κ) (fun κ5 => ck (isK κ5 this 11) (bd (p_ErrataRow_isLetter N this a1 κ5) (fun r6 κ6 => if r6 = 0 then b_ErrataRow_wrongAhead_29 N this a3 κ6 else ck (isK κ6 this 11) (bo (fr κ6 this 12) (fun o16 => ck (isK κ6 o16 8) (bo (fr κ6 o16 0) (fun o18 => ck (isK κ6 o18 20) (ck (inb a1 (ln κ6 o18)) (lt (sai o18 (upd (ai κ6 o18) a1.toNatClampNeg a2) κ6) (fun κ21 => b_ErrataRow_wrongAhead_29 N this a3 κ21))))))))))))))
set_option maxHeartbeats 4000000 in
set_option maxRecDepth 100000 in
theorem c_ErrataRow_wrongAhead_ok (l : Launch) (D : va_G) (θ : Tc) (N : Nat) (this : Nat) (a1 : Int32) (a2 : Int32) (a3 : Int32) (κ : Cz) (ρ : Int32 × Cz) (h : p_ErrataRow_wrongAhead N this a1 a2 a3 κ = some ρ) : CEi l D θ y_ErrataRow_wrongAhead c_ErrataRow_wrongAhead 4 (some .int) 7 0 0 [.ref this, .int a1, .int a2, .int a3] κ ρ := by
  intro sz
  refine e_met l [.ref this, .int a1, .int a2, .int a3] (by decide +kernel) (Nat.le_of_ble_eq_true rfl) ?_
  intro p e s m args below meth c K hN hr hlk hnm hs
  generalize va_A (wE θ κ) sz = A at K ⊢
  have K : KE p s m args c c_ErrataRow_wrongAhead 4 "ErrataRow" y_ErrataRow_wrongAhead (some .int) D θ A := K
  show JE p l e (rmA 7 0 0) s m args below meth c D θ A 4 0 0 (QEi below args s D θ A 0 0 ρ) κ [(0, .ref this), (1, .int a1), (2, .int a2), (3, .int a3)] [] 0
  unfold p_ErrataRow_wrongAhead at h
  refine j_aload_n K 0 d_ErrataRow_wrongAhead_0 rfl rfl ?_
  refine j_aload_n K 0 d_ErrataRow_wrongAhead_1 rfl rfl ?_
  obtain ⟨q1, h⟩ := ck_e h
  refine eg_ErrataRow_world K ef_ErrataRow_45 q1 d_ErrataRow_wrongAhead_2 ?_
  obtain ⟨o2, e2, h⟩ := bo_e h
  refine j_eqq e2 ?_
  obtain ⟨q3, h⟩ := ck_e h
  refine eg_World_now K ef_ErrataRow_145 q3 d_ErrataRow_wrongAhead_5 ?_
  obtain ⟨o4, e4, h⟩ := bo_e h
  refine j_eqq e4 ?_
  obtain ⟨κ5, e5, h⟩ := bo_e h
  refine ecallV_v K hN (c_ErrataRow_startFrom_ok l D θ N this o4 κ _ e5) eG_ErrataRow_252 eh_ErrataRow_startFrom (by decide) (rmA_ok (by decide) (by decide)) rfl q1 (by decide) rfl (st := []) (Nat.le_of_ble_eq_true rfl) rfl d_ErrataRow_wrongAhead_8 ⟨Nat.le_of_ble_eq_true rfl, Nat.le_of_ble_eq_true rfl⟩ ?_
  refine j_aload_n K 0 d_ErrataRow_wrongAhead_11 rfl rfl ?_
  refine j_iload_n K 1 d_ErrataRow_wrongAhead_12 rfl rfl ?_
  obtain ⟨q7, h⟩ := ck_e h
  obtain ⟨r6, κ6, e6, h⟩ := bd_e h
  refine ecallV_i K hN (c_ErrataRow_isLetter_ok l D θ N this a1 κ5 _ e6) eG_ErrataRow_141 eh_ErrataRow_isLetter (by decide) (rmA_ok (by decide) (by decide)) rfl q7 (by decide) rfl (st := []) (Nat.le_of_ble_eq_true rfl) rfl d_ErrataRow_wrongAhead_13 ⟨Nat.le_of_ble_eq_true rfl, Nat.le_of_ble_eq_true rfl⟩ ?_
  refine j_if_eq (tgt := 29) K d_ErrataRow_wrongAhead_16 (by decide) (fun q => ?_) (fun q => ?_)
  · have h := if_t h q
    refine j_sub [0, 3] rfl ?_
    exact t_ErrataRow_wrongAhead_29 K hN hr hlk N ρ this a3 κ6 h
  · have h := if_f h q
    refine j_aload_n K 0 d_ErrataRow_wrongAhead_19 rfl rfl ?_
    obtain ⟨q15, h⟩ := ck_e h
    refine eg_ErrataRow_trial K ef_ErrataRow_85 q15 d_ErrataRow_wrongAhead_20 ?_
    obtain ⟨o16, e16, h⟩ := bo_e h
    refine j_eqq e16 ?_
    obtain ⟨q17, h⟩ := ck_e h
    refine eg_State_put K ef_ErrataRow_148 q17 d_ErrataRow_wrongAhead_23 ?_
    obtain ⟨o18, e18, h⟩ := bo_e h
    refine j_eqq e18 ?_
    refine j_iload_n K 1 d_ErrataRow_wrongAhead_26 rfl rfl ?_
    refine j_iload_n K 2 d_ErrataRow_wrongAhead_27 rfl rfl ?_
    obtain ⟨q19, h⟩ := ck_e h
    obtain ⟨q20, h⟩ := ck_e h
    obtain ⟨κ21, e21, h⟩ := lt_e h
    refine e_iast K q19 (inb_e q20) d_ErrataRow_wrongAhead_28 e21 ?_
    refine j_sub [0, 3] rfl ?_
    exact t_ErrataRow_wrongAhead_29 K hN hr hlk N ρ this a3 κ21 h
def b_ErrataRow_leftOff_44 (N : Nat) : Nat → Nat → Int32 → Int32 → Int32 → Int32 → Int32 → Cz → Option (Int32 × Cz)
  | 0, _, _, _, _, _, _, _ => none
  | n + 1, x0, x1, x2, x3, x4, x5, κ => ck (isK κ x0 11) (bo (fr κ x0 7) (fun o9 => ck (isK κ o9 10) (bo (fr κ o9 0) (fun o11 => ck (isK κ o11 0) (if (fi κ o11 3) ≤ x5 then if x2 = 0 then some (x3, κ) else some (x4, κ) else bo (fr κ x0 7) (fun o13 => ck (isK κ o13 10) (bo (fr κ o13 1) (fun o15 => bo (p_ErrataRow_startFrom N x0 o15 κ) (fun κ16 => ck (isK κ16 x0 11) (bo (fr κ16 x0 10) (fun o18 => ck (isK κ16 o18 4) (lt (sfi o18 3 x5 κ16) (fun κ20 => bo (p_ErrataRow_goOn N x0 x1 κ20) (fun κ21 => ck (isK κ21 x0 11) (bo (fr κ21 x0 10) (fun o23 => bo (fr κ21 x0 12) (fun o24 => ck (isK κ21 o23 4) (bd (p_Press_howManyWrong N o23 o24 κ21) (fun r25 κ25 => if x4 ≤ r25 then lt (x5 + 1) (fun v27 => b_ErrataRow_leftOff_44 N n x0 x1 x2 x3 x4 v27 κ25) else lt (x5 + 1) (fun v28 => b_ErrataRow_leftOff_44 N n x0 x1 x2 x5 r25 v28 κ25))))))))))))))))))))
set_option maxHeartbeats 4000000 in
set_option maxRecDepth 100000 in
theorem t_ErrataRow_leftOff_44 {p : Program} {l : Launch} {e : Env} {s : State} {m : MethodId} {args : Array Value} {below : List Frame} {meth : Method} {c : Code} {D : va_G} {θ : Tc} {A : Nat → Prop} (K : KE p s m args c c_ErrataRow_leftOff 7 "ErrataRow" y_ErrataRow_leftOff (some .int) D θ A) (hN : NX s) (hr : meth.sig.returnType = (some .int)) (hlk : meth.locks = false) (N : Nat) (ρ : Int32 × Cz) : ∀ (n : Nat) (x0 : Nat) (x1 : Int32) (x2 : Int32) (x3 : Int32) (x4 : Int32) (x5 : Int32) (κ : Cz), b_ErrataRow_leftOff_44 N n x0 x1 x2 x3 x4 x5 κ = some ρ → JE p l e (rmA 7 0 0) s m args below meth c D θ A 7 0 0 (QEi below args s D θ A 0 0 ρ) κ [(0, .ref x0), (1, .int x1), (2, .int x2), (3, .int x3), (4, .int x4), (5, .int x5)] [] 44 := by
  intro n
  induction n with
  | zero =>
    intro x0 x1 x2 x3 x4 x5 κ h
    exact absurd h (by simp [b_ErrataRow_leftOff_44])
  | succ n ih =>
    intro x0 x1 x2 x3 x4 x5 κ h
    rw [b_ErrataRow_leftOff_44] at h
    refine j_iload K 5 d_ErrataRow_leftOff_44 rfl ?_
    refine j_aload_n K 0 d_ErrataRow_leftOff_46 rfl rfl ?_
    obtain ⟨q8, h⟩ := ck_e h
    refine eg_ErrataRow_world K ef_ErrataRow_45 q8 d_ErrataRow_leftOff_47 ?_
    obtain ⟨o9, e9, h⟩ := bo_e h
    refine j_eqq e9 ?_
    obtain ⟨q10, h⟩ := ck_e h
    refine eg_World_book K ef_ErrataRow_62 q10 d_ErrataRow_leftOff_50 ?_
    obtain ⟨o11, e11, h⟩ := bo_e h
    refine j_eqq e11 ?_
    obtain ⟨q12, h⟩ := ck_e h
    refine eg_Book_habits K ef_ErrataRow_301 q12 d_ErrataRow_leftOff_53 ?_
    refine j_icmp_ge (tgt := 117) K d_ErrataRow_leftOff_56 (by decide) (fun q => ?_) (fun q => ?_)
    · have h := if_t h q
      refine j_iload_n K 2 d_ErrataRow_leftOff_117 rfl rfl ?_
      refine j_if_ne (tgt := 125) K d_ErrataRow_leftOff_118 (by decide) (fun q => ?_) (fun q => ?_)
      · have h := if_f h q
        refine j_iload K 4 d_ErrataRow_leftOff_125 rfl ?_
        exact eret_i K h hr hlk d_ErrataRow_leftOff_127
      · have h := if_t h q
        refine j_iload_n K 3 d_ErrataRow_leftOff_121 rfl rfl ?_
        refine j_goto (tgt := 127) K d_ErrataRow_leftOff_122 (by decide) ?_
        exact eret_i K h hr hlk d_ErrataRow_leftOff_127
    · have h := if_f h q
      refine j_aload_n K 0 d_ErrataRow_leftOff_59 rfl rfl ?_
      refine j_aload_n K 0 d_ErrataRow_leftOff_60 rfl rfl ?_
      refine eg_ErrataRow_world K ef_ErrataRow_45 q8 d_ErrataRow_leftOff_61 ?_
      obtain ⟨o13, e13, h⟩ := bo_e h
      refine j_eqq e13 ?_
      obtain ⟨q14, h⟩ := ck_e h
      refine eg_World_now K ef_ErrataRow_145 q14 d_ErrataRow_leftOff_64 ?_
      obtain ⟨o15, e15, h⟩ := bo_e h
      refine j_eqq e15 ?_
      obtain ⟨κ16, e16, h⟩ := bo_e h
      refine ecallV_v K hN (c_ErrataRow_startFrom_ok l D θ N x0 o15 κ _ e16) eG_ErrataRow_252 eh_ErrataRow_startFrom (by decide) (rmA_ok (by decide) (by decide)) rfl q8 (by decide) rfl (st := []) (Nat.le_of_ble_eq_true rfl) rfl d_ErrataRow_leftOff_67 ⟨Nat.le_of_ble_eq_true rfl, Nat.le_of_ble_eq_true rfl⟩ ?_
      refine j_aload_n K 0 d_ErrataRow_leftOff_70 rfl rfl ?_
      obtain ⟨q17, h⟩ := ck_e h
      refine eg_ErrataRow_press K ef_ErrataRow_69 q17 d_ErrataRow_leftOff_71 ?_
      obtain ⟨o18, e18, h⟩ := bo_e h
      refine j_eqq e18 ?_
      refine j_iload K 5 d_ErrataRow_leftOff_74 rfl ?_
      obtain ⟨q19, h⟩ := ck_e h
      obtain ⟨κ20, e20, h⟩ := lt_e h
      refine ep_Press_leftOff K ef_ErrataRow_246 q19 d_ErrataRow_leftOff_76 e20 ?_
      refine j_aload_n K 0 d_ErrataRow_leftOff_79 rfl rfl ?_
      refine j_iload_n K 1 d_ErrataRow_leftOff_80 rfl rfl ?_
      obtain ⟨κ21, e21, h⟩ := bo_e h
      refine ecallV_v K hN (c_ErrataRow_goOn_ok l D θ N x0 x1 κ20 _ e21) eG_ErrataRow_255 eh_ErrataRow_goOn (by decide) (rmA_ok (by decide) (by decide)) rfl (isK_sfi e20 q17) (by decide) rfl (st := []) (Nat.le_of_ble_eq_true rfl) rfl d_ErrataRow_leftOff_81 ⟨Nat.le_of_ble_eq_true rfl, Nat.le_of_ble_eq_true rfl⟩ ?_
      refine j_aload_n K 0 d_ErrataRow_leftOff_84 rfl rfl ?_
      obtain ⟨q22, h⟩ := ck_e h
      refine eg_ErrataRow_press K ef_ErrataRow_69 q22 d_ErrataRow_leftOff_85 ?_
      obtain ⟨o23, e23, h⟩ := bo_e h
      refine j_eqq e23 ?_
      refine j_aload_n K 0 d_ErrataRow_leftOff_88 rfl rfl ?_
      refine eg_ErrataRow_trial K ef_ErrataRow_85 q22 d_ErrataRow_leftOff_89 ?_
      obtain ⟨o24, e24, h⟩ := bo_e h
      refine j_eqq e24 ?_
      obtain ⟨q26, h⟩ := ck_e h
      obtain ⟨r25, κ25, e25, h⟩ := bd_e h
      refine ecallV_i K hN (c_Press_howManyWrong_ok l D θ N o23 o24 κ21 _ e25) eG_ErrataRow_225 eh_Press_howManyWrong (by decide) (rmA_ok (by decide) (by decide)) rfl q26 (by decide) rfl (st := []) (Nat.le_of_ble_eq_true rfl) rfl d_ErrataRow_leftOff_92 ⟨Nat.le_of_ble_eq_true rfl, Nat.le_of_ble_eq_true rfl⟩ ?_
      refine j_istore (lv' := [(6, .int r25), (0, .ref x0), (1, .int x1), (2, .int x2), (3, .int x3), (4, .int x4), (5, .int x5)]) K d_ErrataRow_leftOff_95 (by decide) rfl ?_
      refine j_iload K 0 d_ErrataRow_leftOff_97 rfl ?_
      refine j_iload K 5 d_ErrataRow_leftOff_99 rfl ?_
      refine j_icmp_ge (tgt := 111) K d_ErrataRow_leftOff_101 (by decide) (fun q => ?_) (fun q => ?_)
      · have h := if_t h q
        obtain ⟨v27, e27, h⟩ := lt_e h
        refine j_iinc (k := 6) (v := v27) (lv' := [(5, .int v27), (6, .int r25), (0, .ref x0), (1, .int x1), (2, .int x2), (3, .int x3), (4, .int x4)]) K d_ErrataRow_leftOff_111 rfl (by rw [e27]; rfl) (by decide) rfl ?_
        refine j_goto (tgt := 44) K d_ErrataRow_leftOff_114 (by decide) ?_
        refine j_sub [2, 3, 4, 5, 6, 0] rfl ?_
        exact ih x0 x1 x2 x3 x4 v27 κ25 h
      · have h := if_f h q
        refine j_iload K 0 d_ErrataRow_leftOff_104 rfl ?_
        refine j_istore (lv' := [(4, .int r25), (6, .int r25), (0, .ref x0), (1, .int x1), (2, .int x2), (3, .int x3), (5, .int x5)]) K d_ErrataRow_leftOff_106 (by decide) rfl ?_
        refine j_iload K 6 d_ErrataRow_leftOff_108 rfl ?_
        refine j_istore_n (lv' := [(3, .int x5), (4, .int r25), (6, .int r25), (0, .ref x0), (1, .int x1), (2, .int x2), (5, .int x5)]) K d_ErrataRow_leftOff_110 rfl (by decide) rfl ?_
        obtain ⟨v28, e28, h⟩ := lt_e h
        refine j_iinc (k := 6) (v := v28) (lv' := [(5, .int v28), (3, .int x5), (4, .int r25), (6, .int r25), (0, .ref x0), (1, .int x1), (2, .int x2)]) K d_ErrataRow_leftOff_111 rfl (by rw [e28]; rfl) (by decide) rfl ?_
        refine j_goto (tgt := 44) K d_ErrataRow_leftOff_114 (by decide) ?_
        refine j_sub [4, 5, 6, 1, 2, 0] rfl ?_
        exact ih x0 x1 x2 x5 r25 v28 κ25 h
def p_ErrataRow_leftOff (N : Nat) (this : Nat) (a1 : Int32) (a2 : Int32) (κ : Cz) : Option (Int32 × Cz) := ck (isK κ this 11) (bo (fr κ this 7) (fun o2 => ck (isK κ o2 10) (bo (fr κ o2 0) (fun o4 => ck (isK κ o4 0) (if (fi κ o4 0) = 0 then some ((-2), κ) else bd (p_ErrataRow_within N a1 1 40 κ) (fun r6 κ6 => if r6 = 0 then some ((-2), κ6) else bd (p_ErrataRow_within N a2 0 1 κ6) (fun r7 κ7 => if r7 = 0 then some ((-2), κ7) else b_ErrataRow_leftOff_44 N N this a1 a2 (-1) 11 (-1) κ7)))))))
set_option maxHeartbeats 4000000 in
set_option maxRecDepth 100000 in
theorem c_ErrataRow_leftOff_ok (l : Launch) (D : va_G) (θ : Tc) (N : Nat) (this : Nat) (a1 : Int32) (a2 : Int32) (κ : Cz) (ρ : Int32 × Cz) (h : p_ErrataRow_leftOff N this a1 a2 κ = some ρ) : CEi l D θ y_ErrataRow_leftOff c_ErrataRow_leftOff 7 (some .int) 7 0 0 [.ref this, .int a1, .int a2] κ ρ := by
  intro sz
  refine e_met l [.ref this, .int a1, .int a2] (by decide +kernel) (Nat.le_of_ble_eq_true rfl) ?_
  intro p e s m args below meth c K hN hr hlk hnm hs
  generalize va_A (wE θ κ) sz = A at K ⊢
  have K : KE p s m args c c_ErrataRow_leftOff 7 "ErrataRow" y_ErrataRow_leftOff (some .int) D θ A := K
  show JE p l e (rmA 7 0 0) s m args below meth c D θ A 7 0 0 (QEi below args s D θ A 0 0 ρ) κ [(0, .ref this), (1, .int a1), (2, .int a2)] [] 0
  unfold p_ErrataRow_leftOff at h
  refine j_aload_n K 0 d_ErrataRow_leftOff_0 rfl rfl ?_
  obtain ⟨q1, h⟩ := ck_e h
  refine eg_ErrataRow_world K ef_ErrataRow_45 q1 d_ErrataRow_leftOff_1 ?_
  obtain ⟨o2, e2, h⟩ := bo_e h
  refine j_eqq e2 ?_
  obtain ⟨q3, h⟩ := ck_e h
  refine eg_World_book K ef_ErrataRow_62 q3 d_ErrataRow_leftOff_4 ?_
  obtain ⟨o4, e4, h⟩ := bo_e h
  refine j_eqq e4 ?_
  obtain ⟨q5, h⟩ := ck_e h
  refine eg_Book_told K ef_ErrataRow_160 q5 d_ErrataRow_leftOff_7 ?_
  refine j_if_eq (tgt := 32) K d_ErrataRow_leftOff_10 (by decide) (fun q => ?_) (fun q => ?_)
  · have h := if_t h q
    refine j_bipush (v := (-2)) K d_ErrataRow_leftOff_32 (by decide) ?_
    exact eret_i K h hr hlk d_ErrataRow_leftOff_34
  · have h := if_f h q
    refine j_iload_n K 1 d_ErrataRow_leftOff_13 rfl rfl ?_
    refine j_iconst (v := 1) K d_ErrataRow_leftOff_14 (by decide) ?_
    refine j_bipush (v := 40) K d_ErrataRow_leftOff_15 (by decide) ?_
    obtain ⟨r6, κ6, e6, h⟩ := bd_e h
    refine ecallS_i K hN (c_ErrataRow_within_ok l D θ N a1 1 40 κ _ e6) eG_ErrataRow_166 eh_ErrataRow_within (by decide) (rmA_ok (by decide) (by decide)) rfl (st := []) (Nat.le_of_ble_eq_true rfl) rfl d_ErrataRow_leftOff_17 ⟨Nat.le_of_ble_eq_true rfl, Nat.le_of_ble_eq_true rfl⟩ ?_
    refine j_if_eq (tgt := 32) K d_ErrataRow_leftOff_20 (by decide) (fun q => ?_) (fun q => ?_)
    · have h := if_t h q
      refine j_bipush (v := (-2)) K d_ErrataRow_leftOff_32 (by decide) ?_
      exact eret_i K h hr hlk d_ErrataRow_leftOff_34
    · have h := if_f h q
      refine j_iload_n K 2 d_ErrataRow_leftOff_23 rfl rfl ?_
      refine j_iconst (v := 0) K d_ErrataRow_leftOff_24 (by decide) ?_
      refine j_iconst (v := 1) K d_ErrataRow_leftOff_25 (by decide) ?_
      obtain ⟨r7, κ7, e7, h⟩ := bd_e h
      refine ecallS_i K hN (c_ErrataRow_within_ok l D θ N a2 0 1 κ6 _ e7) eG_ErrataRow_166 eh_ErrataRow_within (by decide) (rmA_ok (by decide) (by decide)) rfl (st := []) (Nat.le_of_ble_eq_true rfl) rfl d_ErrataRow_leftOff_26 ⟨Nat.le_of_ble_eq_true rfl, Nat.le_of_ble_eq_true rfl⟩ ?_
      refine j_if_ne (tgt := 35) K d_ErrataRow_leftOff_29 (by decide) (fun q => ?_) (fun q => ?_)
      · have h := if_f h q
        refine j_iconst (v := (-1)) K d_ErrataRow_leftOff_35 (by decide) ?_
        refine j_istore_n (lv' := [(3, .int (-1)), (0, .ref this), (1, .int a1), (2, .int a2)]) K d_ErrataRow_leftOff_36 rfl (by decide) rfl ?_
        refine j_bipush (v := 11) K d_ErrataRow_leftOff_37 (by decide) ?_
        refine j_istore (lv' := [(4, .int 11), (3, .int (-1)), (0, .ref this), (1, .int a1), (2, .int a2)]) K d_ErrataRow_leftOff_39 (by decide) rfl ?_
        refine j_iconst (v := (-1)) K d_ErrataRow_leftOff_41 (by decide) ?_
        refine j_istore (lv' := [(5, .int (-1)), (4, .int 11), (3, .int (-1)), (0, .ref this), (1, .int a1), (2, .int a2)]) K d_ErrataRow_leftOff_42 (by decide) rfl ?_
        refine j_sub [3, 4, 5, 2, 1, 0] rfl ?_
        exact t_ErrataRow_leftOff_44 K hN hr hlk N ρ N this a1 a2 (-1) 11 (-1) κ7 h
      · have h := if_t h q
        refine j_bipush (v := (-2)) K d_ErrataRow_leftOff_32 (by decide) ?_
        exact eret_i K h hr hlk d_ErrataRow_leftOff_34
def p_ErrataRow_costOf (N : Nat) (this : Nat) (a1 : Int32) (κ : Cz) : Option (Int32 × Cz) := ck (isK κ this 11) (bo (fr κ this 12) (fun o2 => ck (isK κ o2 8) (lt (sfi o2 3 3600 κ) (fun κ4 => bo (p_ErrataRow_goOn N this a1 κ4) (fun κ5 => ck (isK κ5 this 11) (bo (fr κ5 this 12) (fun o7 => ck (isK κ5 o7 8) (lt (3600 - (fi κ5 o7 3)) (fun v9 => if 999 < v9 then some ((-2), κ5) else some (v9, κ5))))))))))
set_option maxHeartbeats 4000000 in
set_option maxRecDepth 100000 in
theorem c_ErrataRow_costOf_ok (l : Launch) (D : va_G) (θ : Tc) (N : Nat) (this : Nat) (a1 : Int32) (κ : Cz) (ρ : Int32 × Cz) (h : p_ErrataRow_costOf N this a1 κ = some ρ) : CEi l D θ y_ErrataRow_costOf c_ErrataRow_costOf 4 (some .int) 7 0 0 [.ref this, .int a1] κ ρ := by
  intro sz
  refine e_met l [.ref this, .int a1] (by decide +kernel) (Nat.le_of_ble_eq_true rfl) ?_
  intro p e s m args below meth c K hN hr hlk hnm hs
  generalize va_A (wE θ κ) sz = A at K ⊢
  have K : KE p s m args c c_ErrataRow_costOf 4 "ErrataRow" y_ErrataRow_costOf (some .int) D θ A := K
  show JE p l e (rmA 7 0 0) s m args below meth c D θ A 4 0 0 (QEi below args s D θ A 0 0 ρ) κ [(0, .ref this), (1, .int a1)] [] 0
  unfold p_ErrataRow_costOf at h
  refine j_sipush (v := 3600) K d_ErrataRow_costOf_0 (by decide) ?_
  refine j_istore_n (lv' := [(2, .int 3600), (0, .ref this), (1, .int a1)]) K d_ErrataRow_costOf_3 rfl (by decide) rfl ?_
  refine j_aload_n K 1 d_ErrataRow_costOf_4 rfl rfl ?_
  obtain ⟨q1, h⟩ := ck_e h
  refine eg_ErrataRow_trial K ef_ErrataRow_85 q1 d_ErrataRow_costOf_5 ?_
  obtain ⟨o2, e2, h⟩ := bo_e h
  refine j_eqq e2 ?_
  refine j_iload_n K 0 d_ErrataRow_costOf_8 rfl rfl ?_
  obtain ⟨q3, h⟩ := ck_e h
  obtain ⟨κ4, e4, h⟩ := lt_e h
  refine ep_State_purse K ef_ErrataRow_189 q3 d_ErrataRow_costOf_9 e4 ?_
  refine j_aload_n K 1 d_ErrataRow_costOf_12 rfl rfl ?_
  refine j_iload_n K 2 d_ErrataRow_costOf_13 rfl rfl ?_
  obtain ⟨κ5, e5, h⟩ := bo_e h
  refine ecallV_v K hN (c_ErrataRow_goOn_ok l D θ N this a1 κ4 _ e5) eG_ErrataRow_255 eh_ErrataRow_goOn (by decide) (rmA_ok (by decide) (by decide)) rfl (isK_sfi e4 q1) (by decide) rfl (st := []) (Nat.le_of_ble_eq_true rfl) rfl d_ErrataRow_costOf_14 ⟨Nat.le_of_ble_eq_true rfl, Nat.le_of_ble_eq_true rfl⟩ ?_
  refine j_iload_n K 0 d_ErrataRow_costOf_17 rfl rfl ?_
  refine j_aload_n K 1 d_ErrataRow_costOf_18 rfl rfl ?_
  obtain ⟨q6, h⟩ := ck_e h
  refine eg_ErrataRow_trial K ef_ErrataRow_85 q6 d_ErrataRow_costOf_19 ?_
  obtain ⟨o7, e7, h⟩ := bo_e h
  refine j_eqq e7 ?_
  obtain ⟨q8, h⟩ := ck_e h
  refine eg_State_purse K ef_ErrataRow_189 q8 d_ErrataRow_costOf_22 ?_
  refine j_isub K d_ErrataRow_costOf_25 ?_
  obtain ⟨v9, e9, h⟩ := lt_e h
  refine j_eqi e9 ?_
  refine j_istore_n (lv' := [(3, .int v9), (2, .int 3600), (0, .ref this), (1, .int a1)]) K d_ErrataRow_costOf_26 rfl (by decide) rfl ?_
  refine j_iload_n K 0 d_ErrataRow_costOf_27 rfl rfl ?_
  refine j_sipush (v := 999) K d_ErrataRow_costOf_28 (by decide) ?_
  refine j_icmp_gt (tgt := 38) K d_ErrataRow_costOf_31 (by decide) (fun q => ?_) (fun q => ?_)
  · have h := if_t h q
    refine j_bipush (v := (-2)) K d_ErrataRow_costOf_38 (by decide) ?_
    exact eret_i K h hr hlk d_ErrataRow_costOf_40
  · have h := if_f h q
    refine j_iload_n K 0 d_ErrataRow_costOf_34 rfl rfl ?_
    refine j_goto (tgt := 40) K d_ErrataRow_costOf_35 (by decide) ?_
    exact eret_i K h hr hlk d_ErrataRow_costOf_40
def b_ErrataRow_rests_83 (N : Nat) : Nat → Nat → Int32 → Int32 → Cz → Option (Int32 × Cz)
  | 0, _, _, _, _ => none
  | n + 1, x0, x4, x5, κ => if x5 < 0 then ck (isK κ x0 11) (bo (fr κ x0 13) (fun o10 => ck (isK κ o10 20) (ck (inb x4 (ln κ o10)) (some (ai κ o10 x4.toNatClampNeg, κ))))) else ck (isK κ x0 11) (bd (p_ErrataRow_isRest N x0 x5 κ) (fun r13 κ13 => if r13 = 0 then lt (x5 + (-1)) (fun v15 => b_ErrataRow_rests_83 N n x0 x4 v15 κ13) else ck (isK κ13 x0 11) (bo (fr κ13 x0 13) (fun o17 => ck (isK κ13 o17 20) (ck (inb (0 : Int32) (ln κ13 o17)) (bo (p_ErrataRow_keepFound N x0 ((ai κ13 o17 (0 : Int32).toNatClampNeg) + 1) (x5 / 8) (x5 - x5 / 8 * 8) κ13) (fun κ20 => lt (x5 + (-1)) (fun v21 => b_ErrataRow_rests_83 N n x0 x4 v21 κ20))))))))
set_option maxHeartbeats 4000000 in
set_option maxRecDepth 100000 in
theorem t_ErrataRow_rests_83 {p : Program} {l : Launch} {e : Env} {s : State} {m : MethodId} {args : Array Value} {below : List Frame} {meth : Method} {c : Code} {D : va_G} {θ : Tc} {A : Nat → Prop} (K : KE p s m args c c_ErrataRow_rests 6 "ErrataRow" y_ErrataRow_rests (some .int) D θ A) (hN : NX s) (hr : meth.sig.returnType = (some .int)) (hlk : meth.locks = false) (N : Nat) (ρ : Int32 × Cz) : ∀ (n : Nat) (x0 : Nat) (x4 : Int32) (x5 : Int32) (κ : Cz), b_ErrataRow_rests_83 N n x0 x4 x5 κ = some ρ → JE p l e (rmA 7 0 0) s m args below meth c D θ A 6 0 0 (QEi below args s D θ A 0 0 ρ) κ [(0, .ref x0), (4, .int x4), (5, .int x5)] [] 83 := by
  intro n
  induction n with
  | zero =>
    intro x0 x4 x5 κ h
    exact absurd h (by simp [b_ErrataRow_rests_83])
  | succ n ih =>
    intro x0 x4 x5 κ h
    rw [b_ErrataRow_rests_83] at h
    refine j_iload K 2 d_ErrataRow_rests_83 rfl ?_
    refine j_if_lt (tgt := 125) K d_ErrataRow_rests_85 (by decide) (fun q => ?_) (fun q => ?_)
    · have h := if_t h q
      refine j_aload_n K 0 d_ErrataRow_rests_125 rfl rfl ?_
      obtain ⟨q9, h⟩ := ck_e h
      refine eg_ErrataRow_found K ef_ErrataRow_89 q9 d_ErrataRow_rests_126 ?_
      obtain ⟨o10, e10, h⟩ := bo_e h
      refine j_eqq e10 ?_
      refine j_iload K 1 d_ErrataRow_rests_129 rfl ?_
      obtain ⟨q11, h⟩ := ck_e h
      obtain ⟨q12, h⟩ := ck_e h
      refine e_iald K q11 (inb_e q12) d_ErrataRow_rests_131 ?_
      exact eret_i K h hr hlk d_ErrataRow_rests_132
    · have h := if_f h q
      refine j_aload_n K 0 d_ErrataRow_rests_88 rfl rfl ?_
      refine j_iload K 2 d_ErrataRow_rests_89 rfl ?_
      obtain ⟨q14, h⟩ := ck_e h
      obtain ⟨r13, κ13, e13, h⟩ := bd_e h
      refine ecallV_i K hN (c_ErrataRow_isRest_ok l D θ N x0 x5 κ _ e13) eG_ErrataRow_317 eh_ErrataRow_isRest (by decide) (rmA_ok (by decide) (by decide)) rfl q14 (by decide) rfl (st := []) (Nat.le_of_ble_eq_true rfl) rfl d_ErrataRow_rests_91 ⟨Nat.le_of_ble_eq_true rfl, Nat.le_of_ble_eq_true rfl⟩ ?_
      refine j_if_eq (tgt := 119) K d_ErrataRow_rests_94 (by decide) (fun q => ?_) (fun q => ?_)
      · have h := if_t h q
        obtain ⟨v15, e15, h⟩ := lt_e h
        refine j_iinc (k := 2) (v := v15) (lv' := [(5, .int v15), (0, .ref x0), (4, .int x4)]) K d_ErrataRow_rests_119 rfl (by rw [e15]; rfl) (by decide) rfl ?_
        refine j_goto (tgt := 83) K d_ErrataRow_rests_122 (by decide) ?_
        refine j_sub [1, 2, 0] rfl ?_
        exact ih x0 x4 v15 κ13 h
      · have h := if_f h q
        refine j_aload_n K 0 d_ErrataRow_rests_97 rfl rfl ?_
        refine j_aload_n K 0 d_ErrataRow_rests_98 rfl rfl ?_
        obtain ⟨q16, h⟩ := ck_e h
        refine eg_ErrataRow_found K ef_ErrataRow_89 q16 d_ErrataRow_rests_99 ?_
        obtain ⟨o17, e17, h⟩ := bo_e h
        refine j_eqq e17 ?_
        refine j_iconst (v := 0) K d_ErrataRow_rests_102 (by decide) ?_
        obtain ⟨q18, h⟩ := ck_e h
        obtain ⟨q19, h⟩ := ck_e h
        refine e_iald K q18 (inb_e q19) d_ErrataRow_rests_103 ?_
        refine j_iconst (v := 1) K d_ErrataRow_rests_104 (by decide) ?_
        refine j_iadd K d_ErrataRow_rests_105 ?_
        refine j_iload K 2 d_ErrataRow_rests_106 rfl ?_
        refine j_bipush (v := 8) K d_ErrataRow_rests_108 (by decide) ?_
        refine j_idiv K d_ErrataRow_rests_110 (by decide) ?_
        refine j_iload K 2 d_ErrataRow_rests_111 rfl ?_
        refine j_bipush (v := 8) K d_ErrataRow_rests_113 (by decide) ?_
        refine j_irem K d_ErrataRow_rests_115 (by decide) ?_
        obtain ⟨κ20, e20, h⟩ := bo_e h
        refine ecallV_v K hN (c_ErrataRow_keepFound_ok l D θ N x0 ((ai κ13 o17 (0 : Int32).toNatClampNeg) + 1) (x5 / 8) (x5 - x5 / 8 * 8) κ13 _ e20) eG_ErrataRow_293 eh_ErrataRow_keepFound (by decide) (rmA_ok (by decide) (by decide)) rfl q16 (by decide) rfl (st := []) (Nat.le_of_ble_eq_true rfl) rfl d_ErrataRow_rests_116 ⟨Nat.le_of_ble_eq_true rfl, Nat.le_of_ble_eq_true rfl⟩ ?_
        obtain ⟨v21, e21, h⟩ := lt_e h
        refine j_iinc (k := 2) (v := v21) (lv' := [(5, .int v21), (0, .ref x0), (4, .int x4)]) K d_ErrataRow_rests_119 rfl (by rw [e21]; rfl) (by decide) rfl ?_
        refine j_goto (tgt := 83) K d_ErrataRow_rests_122 (by decide) ?_
        refine j_sub [1, 2, 0] rfl ?_
        exact ih x0 x4 v21 κ20 h
def b_ErrataRow_rests_48 (N : Nat) : Nat → Nat → Int32 → Int32 → Int32 → Int32 → Int32 → Cz → Option (Int32 × Cz)
  | 0, _, _, _, _, _, _, _ => none
  | n + 1, x0, x1, x2, x3, x4, x5, κ => if 64 ≤ x5 then ck (isK κ x0 11) (bo (p_ErrataRow_keepFound N x0 0 (-2) (-2) κ) (fun κ7 => b_ErrataRow_rests_83 N N x0 x4 63 κ7)) else ck (isK κ x0 11) (bo (p_ErrataRow_findGains N x0 x1 x2 x3 x5 κ) (fun κ22 => lt (x5 + 1) (fun v24 => b_ErrataRow_rests_48 N n x0 x1 x2 x3 x4 v24 κ22)))
set_option maxHeartbeats 4000000 in
set_option maxRecDepth 100000 in
theorem t_ErrataRow_rests_48 {p : Program} {l : Launch} {e : Env} {s : State} {m : MethodId} {args : Array Value} {below : List Frame} {meth : Method} {c : Code} {D : va_G} {θ : Tc} {A : Nat → Prop} (K : KE p s m args c c_ErrataRow_rests 6 "ErrataRow" y_ErrataRow_rests (some .int) D θ A) (hN : NX s) (hr : meth.sig.returnType = (some .int)) (hlk : meth.locks = false) (N : Nat) (ρ : Int32 × Cz) : ∀ (n : Nat) (x0 : Nat) (x1 : Int32) (x2 : Int32) (x3 : Int32) (x4 : Int32) (x5 : Int32) (κ : Cz), b_ErrataRow_rests_48 N n x0 x1 x2 x3 x4 x5 κ = some ρ → JE p l e (rmA 7 0 0) s m args below meth c D θ A 6 0 0 (QEi below args s D θ A 0 0 ρ) κ [(0, .ref x0), (1, .int x1), (2, .int x2), (3, .int x3), (4, .int x4), (5, .int x5)] [] 48 := by
  intro n
  induction n with
  | zero =>
    intro x0 x1 x2 x3 x4 x5 κ h
    exact absurd h (by simp [b_ErrataRow_rests_48])
  | succ n ih =>
    intro x0 x1 x2 x3 x4 x5 κ h
    rw [b_ErrataRow_rests_48] at h
    refine j_iload K 5 d_ErrataRow_rests_48 rfl ?_
    refine j_bipush (v := 64) K d_ErrataRow_rests_50 (by decide) ?_
    refine j_icmp_ge (tgt := 70) K d_ErrataRow_rests_52 (by decide) (fun q => ?_) (fun q => ?_)
    · have h := if_t h q
      refine j_aload_n K 0 d_ErrataRow_rests_70 rfl rfl ?_
      refine j_iconst (v := 0) K d_ErrataRow_rests_71 (by decide) ?_
      refine j_bipush (v := (-2)) K d_ErrataRow_rests_72 (by decide) ?_
      refine j_bipush (v := (-2)) K d_ErrataRow_rests_74 (by decide) ?_
      obtain ⟨q8, h⟩ := ck_e h
      obtain ⟨κ7, e7, h⟩ := bo_e h
      refine ecallV_v K hN (c_ErrataRow_keepFound_ok l D θ N x0 0 (-2) (-2) κ _ e7) eG_ErrataRow_293 eh_ErrataRow_keepFound (by decide) (rmA_ok (by decide) (by decide)) rfl q8 (by decide) rfl (st := []) (Nat.le_of_ble_eq_true rfl) rfl d_ErrataRow_rests_76 ⟨Nat.le_of_ble_eq_true rfl, Nat.le_of_ble_eq_true rfl⟩ ?_
      refine j_bipush (v := 63) K d_ErrataRow_rests_79 (by decide) ?_
      refine j_istore (lv' := [(5, .int 63), (0, .ref x0), (1, .int x1), (2, .int x2), (3, .int x3), (4, .int x4)]) K d_ErrataRow_rests_81 (by decide) rfl ?_
      refine j_sub [1, 5, 0] rfl ?_
      exact t_ErrataRow_rests_83 K hN hr hlk N ρ N x0 x4 63 κ7 h
    · have h := if_f h q
      refine j_aload_n K 0 d_ErrataRow_rests_55 rfl rfl ?_
      refine j_iload_n K 1 d_ErrataRow_rests_56 rfl rfl ?_
      refine j_iload_n K 2 d_ErrataRow_rests_57 rfl rfl ?_
      refine j_iload_n K 3 d_ErrataRow_rests_58 rfl rfl ?_
      refine j_iload K 5 d_ErrataRow_rests_59 rfl ?_
      obtain ⟨q23, h⟩ := ck_e h
      obtain ⟨κ22, e22, h⟩ := bo_e h
      refine ecallV_v K hN (c_ErrataRow_findGains_ok l D θ N x0 x1 x2 x3 x5 κ _ e22) eG_ErrataRow_313 eh_ErrataRow_findGains (by decide) (rmA_ok (by decide) (by decide)) rfl q23 (by decide) rfl (st := []) (Nat.le_of_ble_eq_true rfl) rfl d_ErrataRow_rests_61 ⟨Nat.le_of_ble_eq_true rfl, Nat.le_of_ble_eq_true rfl⟩ ?_
      obtain ⟨v24, e24, h⟩ := lt_e h
      refine j_iinc (k := 5) (v := v24) (lv' := [(5, .int v24), (0, .ref x0), (1, .int x1), (2, .int x2), (3, .int x3), (4, .int x4)]) K d_ErrataRow_rests_64 rfl (by rw [e24]; rfl) (by decide) rfl ?_
      refine j_goto (tgt := 48) K d_ErrataRow_rests_67 (by decide) ?_
      refine j_sub [1, 2, 3, 4, 5, 0] rfl ?_
      exact ih x0 x1 x2 x3 x4 v24 κ22 h
def p_ErrataRow_rests (N : Nat) (this : Nat) (a1 : Int32) (a2 : Int32) (a3 : Int32) (a4 : Int32) (κ : Cz) : Option (Int32 × Cz) := ck (isK κ this 11) (bd (p_ErrataRow_isLetter N this a1 κ) (fun r1 κ1 => if r1 = 0 then some ((-1), κ1) else ck (isK κ1 this 11) (bd (p_ErrataRow_isLetter N this a2 κ1) (fun r3 κ3 => if r3 = 0 then some ((-1), κ3) else if a1 = a2 then some ((-1), κ3) else bd (p_ErrataRow_within N a3 1 20 κ3) (fun r5 κ5 => if r5 = 0 then some ((-1), κ5) else bd (p_ErrataRow_within N a4 0 2 κ5) (fun r6 κ6 => if r6 = 0 then some ((-1), κ6) else b_ErrataRow_rests_48 N N this a1 a2 a3 a4 0 κ6))))))
set_option maxHeartbeats 4000000 in
set_option maxRecDepth 100000 in
theorem c_ErrataRow_rests_ok (l : Launch) (D : va_G) (θ : Tc) (N : Nat) (this : Nat) (a1 : Int32) (a2 : Int32) (a3 : Int32) (a4 : Int32) (κ : Cz) (ρ : Int32 × Cz) (h : p_ErrataRow_rests N this a1 a2 a3 a4 κ = some ρ) : CEi l D θ y_ErrataRow_rests c_ErrataRow_rests 6 (some .int) 7 0 0 [.ref this, .int a1, .int a2, .int a3, .int a4] κ ρ := by
  intro sz
  refine e_met l [.ref this, .int a1, .int a2, .int a3, .int a4] (by decide +kernel) (Nat.le_of_ble_eq_true rfl) ?_
  intro p e s m args below meth c K hN hr hlk hnm hs
  generalize va_A (wE θ κ) sz = A at K ⊢
  have K : KE p s m args c c_ErrataRow_rests 6 "ErrataRow" y_ErrataRow_rests (some .int) D θ A := K
  show JE p l e (rmA 7 0 0) s m args below meth c D θ A 6 0 0 (QEi below args s D θ A 0 0 ρ) κ [(0, .ref this), (1, .int a1), (2, .int a2), (3, .int a3), (4, .int a4)] [] 0
  unfold p_ErrataRow_rests at h
  refine j_aload_n K 0 d_ErrataRow_rests_0 rfl rfl ?_
  refine j_iload_n K 1 d_ErrataRow_rests_1 rfl rfl ?_
  obtain ⟨q2, h⟩ := ck_e h
  obtain ⟨r1, κ1, e1, h⟩ := bd_e h
  refine ecallV_i K hN (c_ErrataRow_isLetter_ok l D θ N this a1 κ _ e1) eG_ErrataRow_141 eh_ErrataRow_isLetter (by decide) (rmA_ok (by decide) (by decide)) rfl q2 (by decide) rfl (st := []) (Nat.le_of_ble_eq_true rfl) rfl d_ErrataRow_rests_2 ⟨Nat.le_of_ble_eq_true rfl, Nat.le_of_ble_eq_true rfl⟩ ?_
  refine j_if_eq (tgt := 21) K d_ErrataRow_rests_5 (by decide) (fun q => ?_) (fun q => ?_)
  · have h := if_t h q
    refine j_iconst (v := (-1)) K d_ErrataRow_rests_21 (by decide) ?_
    exact eret_i K h hr hlk d_ErrataRow_rests_22
  · have h := if_f h q
    refine j_aload_n K 0 d_ErrataRow_rests_8 rfl rfl ?_
    refine j_iload_n K 2 d_ErrataRow_rests_9 rfl rfl ?_
    obtain ⟨q4, h⟩ := ck_e h
    obtain ⟨r3, κ3, e3, h⟩ := bd_e h
    refine ecallV_i K hN (c_ErrataRow_isLetter_ok l D θ N this a2 κ1 _ e3) eG_ErrataRow_141 eh_ErrataRow_isLetter (by decide) (rmA_ok (by decide) (by decide)) rfl q4 (by decide) rfl (st := []) (Nat.le_of_ble_eq_true rfl) rfl d_ErrataRow_rests_10 ⟨Nat.le_of_ble_eq_true rfl, Nat.le_of_ble_eq_true rfl⟩ ?_
    refine j_if_eq (tgt := 21) K d_ErrataRow_rests_13 (by decide) (fun q => ?_) (fun q => ?_)
    · have h := if_t h q
      refine j_iconst (v := (-1)) K d_ErrataRow_rests_21 (by decide) ?_
      exact eret_i K h hr hlk d_ErrataRow_rests_22
    · have h := if_f h q
      refine j_iload_n K 1 d_ErrataRow_rests_16 rfl rfl ?_
      refine j_iload_n K 2 d_ErrataRow_rests_17 rfl rfl ?_
      refine j_icmp_ne (tgt := 23) K d_ErrataRow_rests_18 (by decide) (fun q => ?_) (fun q => ?_)
      · have h := if_f h q
        refine j_iload_n K 3 d_ErrataRow_rests_23 rfl rfl ?_
        refine j_iconst (v := 1) K d_ErrataRow_rests_24 (by decide) ?_
        refine j_bipush (v := 20) K d_ErrataRow_rests_25 (by decide) ?_
        obtain ⟨r5, κ5, e5, h⟩ := bd_e h
        refine ecallS_i K hN (c_ErrataRow_within_ok l D θ N a3 1 20 κ3 _ e5) eG_ErrataRow_166 eh_ErrataRow_within (by decide) (rmA_ok (by decide) (by decide)) rfl (st := []) (Nat.le_of_ble_eq_true rfl) rfl d_ErrataRow_rests_27 ⟨Nat.le_of_ble_eq_true rfl, Nat.le_of_ble_eq_true rfl⟩ ?_
        refine j_if_eq (tgt := 43) K d_ErrataRow_rests_30 (by decide) (fun q => ?_) (fun q => ?_)
        · have h := if_t h q
          refine j_iconst (v := (-1)) K d_ErrataRow_rests_43 (by decide) ?_
          exact eret_i K h hr hlk d_ErrataRow_rests_44
        · have h := if_f h q
          refine j_iload K 4 d_ErrataRow_rests_33 rfl ?_
          refine j_iconst (v := 0) K d_ErrataRow_rests_35 (by decide) ?_
          refine j_iconst (v := 2) K d_ErrataRow_rests_36 (by decide) ?_
          obtain ⟨r6, κ6, e6, h⟩ := bd_e h
          refine ecallS_i K hN (c_ErrataRow_within_ok l D θ N a4 0 2 κ5 _ e6) eG_ErrataRow_166 eh_ErrataRow_within (by decide) (rmA_ok (by decide) (by decide)) rfl (st := []) (Nat.le_of_ble_eq_true rfl) rfl d_ErrataRow_rests_37 ⟨Nat.le_of_ble_eq_true rfl, Nat.le_of_ble_eq_true rfl⟩ ?_
          refine j_if_ne (tgt := 45) K d_ErrataRow_rests_40 (by decide) (fun q => ?_) (fun q => ?_)
          · have h := if_f h q
            refine j_iconst (v := 0) K d_ErrataRow_rests_45 (by decide) ?_
            refine j_istore (lv' := [(5, .int 0), (0, .ref this), (1, .int a1), (2, .int a2), (3, .int a3), (4, .int a4)]) K d_ErrataRow_rests_46 (by decide) rfl ?_
            refine j_sub [1, 2, 3, 4, 5, 0] rfl ?_
            exact t_ErrataRow_rests_48 K hN hr hlk N ρ N this a1 a2 a3 a4 0 κ6 h
          · have h := if_t h q
            refine j_iconst (v := (-1)) K d_ErrataRow_rests_43 (by decide) ?_
            exact eret_i K h hr hlk d_ErrataRow_rests_44
      · have h := if_t h q
        refine j_iconst (v := (-1)) K d_ErrataRow_rests_21 (by decide) ?_
        exact eret_i K h hr hlk d_ErrataRow_rests_22
def b_ErrataRow_putAs_14 (N : Nat) : Nat → Nat → Int32 → Int32 → Int32 → Cz → Option (Int32 × Cz)
  | 0, _, _, _, _, _ => none
  | n + 1, x0, x1, x2, x3, κ => if 8 ≤ x3 then some (x2, κ) else ck (isK κ x0 11) (bo (fr κ x0 7) (fun o4 => ck (isK κ o4 10) (bo (fr κ o4 0) (fun o6 => ck (isK κ o6 0) (bo (fr κ o6 7) (fun o8 => bo (p_ErrataRow_startFrom N x0 o8 κ) (fun κ9 => ck (isK κ9 x0 11) (bo (fr κ9 x0 12) (fun o11 => ck (isK κ9 o11 8) (bo (fr κ9 o11 0) (fun o13 => ck (isK κ9 o13 20) (ck (inb x1 (ln κ9 o13)) (lt (sai o13 (upd (ai κ9 o13) x1.toNatClampNeg x3) κ9) (fun κ16 => bd (p_ErrataRow_areNotesSo N x0 κ16) (fun r17 κ17 => if r17 = 0 then lt (x3 + 1) (fun v18 => b_ErrataRow_putAs_14 N n x0 x1 x2 v18 κ17) else lt (x2 ||| ((1 : Int32) <<< (x3 &&& 31))) (fun v19 => lt (x3 + 1) (fun v20 => b_ErrataRow_putAs_14 N n x0 x1 v19 v20 κ17)))))))))))))))))
set_option maxHeartbeats 4000000 in
set_option maxRecDepth 100000 in
theorem t_ErrataRow_putAs_14 {p : Program} {l : Launch} {e : Env} {s : State} {m : MethodId} {args : Array Value} {below : List Frame} {meth : Method} {c : Code} {D : va_G} {θ : Tc} {A : Nat → Prop} (K : KE p s m args c c_ErrataRow_putAs 4 "ErrataRow" y_ErrataRow_putAs (some .int) D θ A) (hN : NX s) (hr : meth.sig.returnType = (some .int)) (hlk : meth.locks = false) (N : Nat) (ρ : Int32 × Cz) : ∀ (n : Nat) (x0 : Nat) (x1 : Int32) (x2 : Int32) (x3 : Int32) (κ : Cz), b_ErrataRow_putAs_14 N n x0 x1 x2 x3 κ = some ρ → JE p l e (rmA 7 0 0) s m args below meth c D θ A 4 0 0 (QEi below args s D θ A 0 0 ρ) κ [(0, .ref x0), (1, .int x1), (2, .int x2), (3, .int x3)] [] 14 := by
  intro n
  induction n with
  | zero =>
    intro x0 x1 x2 x3 κ h
    exact absurd h (by simp [b_ErrataRow_putAs_14])
  | succ n ih =>
    intro x0 x1 x2 x3 κ h
    rw [b_ErrataRow_putAs_14] at h
    refine j_iload_n K 3 d_ErrataRow_putAs_14 rfl rfl ?_
    refine j_bipush (v := 8) K d_ErrataRow_putAs_15 (by decide) ?_
    refine j_icmp_ge (tgt := 63) K d_ErrataRow_putAs_17 (by decide) (fun q => ?_) (fun q => ?_)
    · have h := if_t h q
      refine j_iload_n K 2 d_ErrataRow_putAs_63 rfl rfl ?_
      exact eret_i K h hr hlk d_ErrataRow_putAs_64
    · have h := if_f h q
      refine j_aload_n K 0 d_ErrataRow_putAs_20 rfl rfl ?_
      refine j_aload_n K 0 d_ErrataRow_putAs_21 rfl rfl ?_
      obtain ⟨q3, h⟩ := ck_e h
      refine eg_ErrataRow_world K ef_ErrataRow_45 q3 d_ErrataRow_putAs_22 ?_
      obtain ⟨o4, e4, h⟩ := bo_e h
      refine j_eqq e4 ?_
      obtain ⟨q5, h⟩ := ck_e h
      refine eg_World_book K ef_ErrataRow_62 q5 d_ErrataRow_putAs_25 ?_
      obtain ⟨o6, e6, h⟩ := bo_e h
      refine j_eqq e6 ?_
      obtain ⟨q7, h⟩ := ck_e h
      refine eg_Book_begin K ef_ErrataRow_326 q7 d_ErrataRow_putAs_28 ?_
      obtain ⟨o8, e8, h⟩ := bo_e h
      refine j_eqq e8 ?_
      obtain ⟨κ9, e9, h⟩ := bo_e h
      refine ecallV_v K hN (c_ErrataRow_startFrom_ok l D θ N x0 o8 κ _ e9) eG_ErrataRow_252 eh_ErrataRow_startFrom (by decide) (rmA_ok (by decide) (by decide)) rfl q3 (by decide) rfl (st := []) (Nat.le_of_ble_eq_true rfl) rfl d_ErrataRow_putAs_31 ⟨Nat.le_of_ble_eq_true rfl, Nat.le_of_ble_eq_true rfl⟩ ?_
      refine j_aload_n K 0 d_ErrataRow_putAs_34 rfl rfl ?_
      obtain ⟨q10, h⟩ := ck_e h
      refine eg_ErrataRow_trial K ef_ErrataRow_85 q10 d_ErrataRow_putAs_35 ?_
      obtain ⟨o11, e11, h⟩ := bo_e h
      refine j_eqq e11 ?_
      obtain ⟨q12, h⟩ := ck_e h
      refine eg_State_put K ef_ErrataRow_148 q12 d_ErrataRow_putAs_38 ?_
      obtain ⟨o13, e13, h⟩ := bo_e h
      refine j_eqq e13 ?_
      refine j_iload_n K 1 d_ErrataRow_putAs_41 rfl rfl ?_
      refine j_iload_n K 3 d_ErrataRow_putAs_42 rfl rfl ?_
      obtain ⟨q14, h⟩ := ck_e h
      obtain ⟨q15, h⟩ := ck_e h
      obtain ⟨κ16, e16, h⟩ := lt_e h
      refine e_iast K q14 (inb_e q15) d_ErrataRow_putAs_43 e16 ?_
      refine j_aload_n K 0 d_ErrataRow_putAs_44 rfl rfl ?_
      obtain ⟨r17, κ17, e17, h⟩ := bd_e h
      refine ecallV_i K hN (c_ErrataRow_areNotesSo_ok l D θ N x0 κ16 _ e17) eG_ErrataRow_329 eh_ErrataRow_areNotesSo (by decide) (rmA_ok (by decide) (by decide)) rfl (isK_sai e16 q10) (by decide) rfl (st := []) (Nat.le_of_ble_eq_true rfl) rfl d_ErrataRow_putAs_45 ⟨Nat.le_of_ble_eq_true rfl, Nat.le_of_ble_eq_true rfl⟩ ?_
      refine j_if_eq (tgt := 57) K d_ErrataRow_putAs_48 (by decide) (fun q => ?_) (fun q => ?_)
      · have h := if_t h q
        obtain ⟨v18, e18, h⟩ := lt_e h
        refine j_iinc (k := 3) (v := v18) (lv' := [(3, .int v18), (0, .ref x0), (1, .int x1), (2, .int x2)]) K d_ErrataRow_putAs_57 rfl (by rw [e18]; rfl) (by decide) rfl ?_
        refine j_goto (tgt := 14) K d_ErrataRow_putAs_60 (by decide) ?_
        refine j_sub [1, 2, 3, 0] rfl ?_
        exact ih x0 x1 x2 v18 κ17 h
      · have h := if_f h q
        refine j_iload_n K 2 d_ErrataRow_putAs_51 rfl rfl ?_
        refine j_iconst (v := 1) K d_ErrataRow_putAs_52 (by decide) ?_
        refine j_iload_n K 3 d_ErrataRow_putAs_53 rfl rfl ?_
        refine j_ishl K d_ErrataRow_putAs_54 ?_
        refine j_ior K d_ErrataRow_putAs_55 ?_
        obtain ⟨v19, e19, h⟩ := lt_e h
        refine j_eqi e19 ?_
        refine j_istore_n (lv' := [(2, .int v19), (0, .ref x0), (1, .int x1), (3, .int x3)]) K d_ErrataRow_putAs_56 rfl (by decide) rfl ?_
        obtain ⟨v20, e20, h⟩ := lt_e h
        refine j_iinc (k := 3) (v := v20) (lv' := [(3, .int v20), (2, .int v19), (0, .ref x0), (1, .int x1)]) K d_ErrataRow_putAs_57 rfl (by rw [e20]; rfl) (by decide) rfl ?_
        refine j_goto (tgt := 14) K d_ErrataRow_putAs_60 (by decide) ?_
        refine j_sub [2, 3, 1, 0] rfl ?_
        exact ih x0 x1 v19 v20 κ17 h
def p_ErrataRow_putAs (N : Nat) (this : Nat) (a1 : Int32) (κ : Cz) : Option (Int32 × Cz) := ck (isK κ this 11) (bd (p_ErrataRow_isLetter N this a1 κ) (fun r1 κ1 => if r1 = 0 then some ((-1), κ1) else b_ErrataRow_putAs_14 N N this a1 0 0 κ1))
set_option maxHeartbeats 4000000 in
set_option maxRecDepth 100000 in
theorem c_ErrataRow_putAs_ok (l : Launch) (D : va_G) (θ : Tc) (N : Nat) (this : Nat) (a1 : Int32) (κ : Cz) (ρ : Int32 × Cz) (h : p_ErrataRow_putAs N this a1 κ = some ρ) : CEi l D θ y_ErrataRow_putAs c_ErrataRow_putAs 4 (some .int) 7 0 0 [.ref this, .int a1] κ ρ := by
  intro sz
  refine e_met l [.ref this, .int a1] (by decide +kernel) (Nat.le_of_ble_eq_true rfl) ?_
  intro p e s m args below meth c K hN hr hlk hnm hs
  generalize va_A (wE θ κ) sz = A at K ⊢
  have K : KE p s m args c c_ErrataRow_putAs 4 "ErrataRow" y_ErrataRow_putAs (some .int) D θ A := K
  show JE p l e (rmA 7 0 0) s m args below meth c D θ A 4 0 0 (QEi below args s D θ A 0 0 ρ) κ [(0, .ref this), (1, .int a1)] [] 0
  unfold p_ErrataRow_putAs at h
  refine j_aload_n K 0 d_ErrataRow_putAs_0 rfl rfl ?_
  refine j_iload_n K 1 d_ErrataRow_putAs_1 rfl rfl ?_
  obtain ⟨q2, h⟩ := ck_e h
  obtain ⟨r1, κ1, e1, h⟩ := bd_e h
  refine ecallV_i K hN (c_ErrataRow_isLetter_ok l D θ N this a1 κ _ e1) eG_ErrataRow_141 eh_ErrataRow_isLetter (by decide) (rmA_ok (by decide) (by decide)) rfl q2 (by decide) rfl (st := []) (Nat.le_of_ble_eq_true rfl) rfl d_ErrataRow_putAs_2 ⟨Nat.le_of_ble_eq_true rfl, Nat.le_of_ble_eq_true rfl⟩ ?_
  refine j_if_ne (tgt := 10) K d_ErrataRow_putAs_5 (by decide) (fun q => ?_) (fun q => ?_)
  · have h := if_f h q
    refine j_iconst (v := 0) K d_ErrataRow_putAs_10 (by decide) ?_
    refine j_istore_n (lv' := [(2, .int 0), (0, .ref this), (1, .int a1)]) K d_ErrataRow_putAs_11 rfl (by decide) rfl ?_
    refine j_iconst (v := 0) K d_ErrataRow_putAs_12 (by decide) ?_
    refine j_istore_n (lv' := [(3, .int 0), (2, .int 0), (0, .ref this), (1, .int a1)]) K d_ErrataRow_putAs_13 rfl (by decide) rfl ?_
    refine j_sub [2, 3, 1, 0] rfl ?_
    exact t_ErrataRow_putAs_14 K hN hr hlk N ρ N this a1 0 0 κ1 h
  · have h := if_t h q
    refine j_iconst (v := (-1)) K d_ErrataRow_putAs_8 (by decide) ?_
    exact eret_i K h hr hlk d_ErrataRow_putAs_9
def b_ErrataRow_ruled_38 (N : Nat) : Nat → Nat → Int32 → Int32 → Int32 → Int32 → Cz → Option (Int32 × Cz)
  | 0, _, _, _, _, _, _ => none
  | n + 1, x0, x1, x2, x3, x4, κ => if x4 < (-1) then if x1 = 0 then some (x2, κ) else some (x3, κ) else ck (isK κ x0 11) (bo (p_ErrataRow_startByRule N x0 x4 κ) (fun κ9 => ck (isK κ9 x0 11) (bd (p_ErrataRow_areNotesSo N x0 κ9) (fun r11 κ11 => if r11 = 0 then lt (x4 + (-1)) (fun v13 => b_ErrataRow_ruled_38 N n x0 x1 x2 x3 v13 κ11) else lt (x2 + 1) (fun v14 => lt (x4 + (-1)) (fun v15 => b_ErrataRow_ruled_38 N n x0 x1 v14 x4 v15 κ11))))))
set_option maxHeartbeats 4000000 in
set_option maxRecDepth 100000 in
theorem t_ErrataRow_ruled_38 {p : Program} {l : Launch} {e : Env} {s : State} {m : MethodId} {args : Array Value} {below : List Frame} {meth : Method} {c : Code} {D : va_G} {θ : Tc} {A : Nat → Prop} (K : KE p s m args c c_ErrataRow_ruled 5 "ErrataRow" y_ErrataRow_ruled (some .int) D θ A) (hN : NX s) (hr : meth.sig.returnType = (some .int)) (hlk : meth.locks = false) (N : Nat) (ρ : Int32 × Cz) : ∀ (n : Nat) (x0 : Nat) (x1 : Int32) (x2 : Int32) (x3 : Int32) (x4 : Int32) (κ : Cz), b_ErrataRow_ruled_38 N n x0 x1 x2 x3 x4 κ = some ρ → JE p l e (rmA 7 0 0) s m args below meth c D θ A 5 0 0 (QEi below args s D θ A 0 0 ρ) κ [(0, .ref x0), (1, .int x1), (2, .int x2), (3, .int x3), (4, .int x4)] [] 38 := by
  intro n
  induction n with
  | zero =>
    intro x0 x1 x2 x3 x4 κ h
    exact absurd h (by simp [b_ErrataRow_ruled_38])
  | succ n ih =>
    intro x0 x1 x2 x3 x4 κ h
    rw [b_ErrataRow_ruled_38] at h
    refine j_iload K 4 d_ErrataRow_ruled_38 rfl ?_
    refine j_iconst (v := (-1)) K d_ErrataRow_ruled_40 (by decide) ?_
    refine j_icmp_lt (tgt := 69) K d_ErrataRow_ruled_41 (by decide) (fun q => ?_) (fun q => ?_)
    · have h := if_t h q
      refine j_iload_n K 1 d_ErrataRow_ruled_69 rfl rfl ?_
      refine j_if_ne (tgt := 77) K d_ErrataRow_ruled_70 (by decide) (fun q => ?_) (fun q => ?_)
      · have h := if_f h q
        refine j_iload_n K 3 d_ErrataRow_ruled_77 rfl rfl ?_
        exact eret_i K h hr hlk d_ErrataRow_ruled_78
      · have h := if_t h q
        refine j_iload_n K 2 d_ErrataRow_ruled_73 rfl rfl ?_
        refine j_goto (tgt := 78) K d_ErrataRow_ruled_74 (by decide) ?_
        exact eret_i K h hr hlk d_ErrataRow_ruled_78
    · have h := if_f h q
      refine j_aload_n K 0 d_ErrataRow_ruled_44 rfl rfl ?_
      refine j_iload K 4 d_ErrataRow_ruled_45 rfl ?_
      obtain ⟨q10, h⟩ := ck_e h
      obtain ⟨κ9, e9, h⟩ := bo_e h
      refine ecallV_v K hN (c_ErrataRow_startByRule_ok l D θ N x0 x4 κ _ e9) eG_ErrataRow_340 eh_ErrataRow_startByRule (by decide) (rmA_ok (by decide) (by decide)) rfl q10 (by decide) rfl (st := []) (Nat.le_of_ble_eq_true rfl) rfl d_ErrataRow_ruled_47 ⟨Nat.le_of_ble_eq_true rfl, Nat.le_of_ble_eq_true rfl⟩ ?_
      refine j_aload_n K 0 d_ErrataRow_ruled_50 rfl rfl ?_
      obtain ⟨q12, h⟩ := ck_e h
      obtain ⟨r11, κ11, e11, h⟩ := bd_e h
      refine ecallV_i K hN (c_ErrataRow_areNotesSo_ok l D θ N x0 κ9 _ e11) eG_ErrataRow_329 eh_ErrataRow_areNotesSo (by decide) (rmA_ok (by decide) (by decide)) rfl q12 (by decide) rfl (st := []) (Nat.le_of_ble_eq_true rfl) rfl d_ErrataRow_ruled_51 ⟨Nat.le_of_ble_eq_true rfl, Nat.le_of_ble_eq_true rfl⟩ ?_
      refine j_if_eq (tgt := 63) K d_ErrataRow_ruled_54 (by decide) (fun q => ?_) (fun q => ?_)
      · have h := if_t h q
        obtain ⟨v13, e13, h⟩ := lt_e h
        refine j_iinc (k := 4) (v := v13) (lv' := [(4, .int v13), (0, .ref x0), (1, .int x1), (2, .int x2), (3, .int x3)]) K d_ErrataRow_ruled_63 rfl (by rw [e13]; rfl) (by decide) rfl ?_
        refine j_goto (tgt := 38) K d_ErrataRow_ruled_66 (by decide) ?_
        refine j_sub [1, 2, 3, 4, 0] rfl ?_
        exact ih x0 x1 x2 x3 v13 κ11 h
      · have h := if_f h q
        obtain ⟨v14, e14, h⟩ := lt_e h
        refine j_iinc (k := 2) (v := v14) (lv' := [(2, .int v14), (0, .ref x0), (1, .int x1), (3, .int x3), (4, .int x4)]) K d_ErrataRow_ruled_57 rfl (by rw [e14]; rfl) (by decide) rfl ?_
        refine j_iload K 4 d_ErrataRow_ruled_60 rfl ?_
        refine j_istore_n (lv' := [(3, .int x4), (2, .int v14), (0, .ref x0), (1, .int x1), (4, .int x4)]) K d_ErrataRow_ruled_62 rfl (by decide) rfl ?_
        obtain ⟨v15, e15, h⟩ := lt_e h
        refine j_iinc (k := 4) (v := v15) (lv' := [(4, .int v15), (3, .int x4), (2, .int v14), (0, .ref x0), (1, .int x1)]) K d_ErrataRow_ruled_63 rfl (by rw [e15]; rfl) (by decide) rfl ?_
        refine j_goto (tgt := 38) K d_ErrataRow_ruled_66 (by decide) ?_
        refine j_sub [3, 4, 2, 1, 0] rfl ?_
        exact ih x0 x1 v14 x4 v15 κ11 h
def p_ErrataRow_ruled (N : Nat) (this : Nat) (a1 : Int32) (κ : Cz) : Option (Int32 × Cz) := ck (isK κ this 11) (bo (fr κ this 7) (fun o2 => ck (isK κ o2 10) (bo (fr κ o2 0) (fun o4 => ck (isK κ o4 0) (if (fi κ o4 0) = 0 then some ((-3), κ) else bd (p_ErrataRow_within N a1 0 1 κ) (fun r6 κ6 => if r6 = 0 then some ((-3), κ6) else ck (isK κ6 this 11) (lt ((fi κ6 this 6) - 1) (fun v8 => b_ErrataRow_ruled_38 N N this a1 0 (-2) v8 κ6))))))))
set_option maxHeartbeats 4000000 in
set_option maxRecDepth 100000 in
theorem c_ErrataRow_ruled_ok (l : Launch) (D : va_G) (θ : Tc) (N : Nat) (this : Nat) (a1 : Int32) (κ : Cz) (ρ : Int32 × Cz) (h : p_ErrataRow_ruled N this a1 κ = some ρ) : CEi l D θ y_ErrataRow_ruled c_ErrataRow_ruled 5 (some .int) 7 0 0 [.ref this, .int a1] κ ρ := by
  intro sz
  refine e_met l [.ref this, .int a1] (by decide +kernel) (Nat.le_of_ble_eq_true rfl) ?_
  intro p e s m args below meth c K hN hr hlk hnm hs
  generalize va_A (wE θ κ) sz = A at K ⊢
  have K : KE p s m args c c_ErrataRow_ruled 5 "ErrataRow" y_ErrataRow_ruled (some .int) D θ A := K
  show JE p l e (rmA 7 0 0) s m args below meth c D θ A 5 0 0 (QEi below args s D θ A 0 0 ρ) κ [(0, .ref this), (1, .int a1)] [] 0
  unfold p_ErrataRow_ruled at h
  refine j_aload_n K 0 d_ErrataRow_ruled_0 rfl rfl ?_
  obtain ⟨q1, h⟩ := ck_e h
  refine eg_ErrataRow_world K ef_ErrataRow_45 q1 d_ErrataRow_ruled_1 ?_
  obtain ⟨o2, e2, h⟩ := bo_e h
  refine j_eqq e2 ?_
  obtain ⟨q3, h⟩ := ck_e h
  refine eg_World_book K ef_ErrataRow_62 q3 d_ErrataRow_ruled_4 ?_
  obtain ⟨o4, e4, h⟩ := bo_e h
  refine j_eqq e4 ?_
  obtain ⟨q5, h⟩ := ck_e h
  refine eg_Book_told K ef_ErrataRow_160 q5 d_ErrataRow_ruled_7 ?_
  refine j_if_eq (tgt := 22) K d_ErrataRow_ruled_10 (by decide) (fun q => ?_) (fun q => ?_)
  · have h := if_t h q
    refine j_bipush (v := (-3)) K d_ErrataRow_ruled_22 (by decide) ?_
    exact eret_i K h hr hlk d_ErrataRow_ruled_24
  · have h := if_f h q
    refine j_iload_n K 1 d_ErrataRow_ruled_13 rfl rfl ?_
    refine j_iconst (v := 0) K d_ErrataRow_ruled_14 (by decide) ?_
    refine j_iconst (v := 1) K d_ErrataRow_ruled_15 (by decide) ?_
    obtain ⟨r6, κ6, e6, h⟩ := bd_e h
    refine ecallS_i K hN (c_ErrataRow_within_ok l D θ N a1 0 1 κ _ e6) eG_ErrataRow_166 eh_ErrataRow_within (by decide) (rmA_ok (by decide) (by decide)) rfl (st := []) (Nat.le_of_ble_eq_true rfl) rfl d_ErrataRow_ruled_16 ⟨Nat.le_of_ble_eq_true rfl, Nat.le_of_ble_eq_true rfl⟩ ?_
    refine j_if_ne (tgt := 25) K d_ErrataRow_ruled_19 (by decide) (fun q => ?_) (fun q => ?_)
    · have h := if_f h q
      refine j_iconst (v := 0) K d_ErrataRow_ruled_25 (by decide) ?_
      refine j_istore_n (lv' := [(2, .int 0), (0, .ref this), (1, .int a1)]) K d_ErrataRow_ruled_26 rfl (by decide) rfl ?_
      refine j_bipush (v := (-2)) K d_ErrataRow_ruled_27 (by decide) ?_
      refine j_istore_n (lv' := [(3, .int (-2)), (2, .int 0), (0, .ref this), (1, .int a1)]) K d_ErrataRow_ruled_29 rfl (by decide) rfl ?_
      refine j_aload_n K 2 d_ErrataRow_ruled_30 rfl rfl ?_
      obtain ⟨q7, h⟩ := ck_e h
      refine eg_ErrataRow_ruleCount K ef_ErrataRow_128 q7 d_ErrataRow_ruled_31 ?_
      refine j_iconst (v := 1) K d_ErrataRow_ruled_34 (by decide) ?_
      refine j_isub K d_ErrataRow_ruled_35 ?_
      obtain ⟨v8, e8, h⟩ := lt_e h
      refine j_eqi e8 ?_
      refine j_istore (lv' := [(4, .int v8), (3, .int (-2)), (2, .int 0), (0, .ref this), (1, .int a1)]) K d_ErrataRow_ruled_36 (by decide) rfl ?_
      refine j_sub [3, 4, 2, 1, 0] rfl ?_
      exact t_ErrataRow_ruled_38 K hN hr hlk N ρ N this a1 0 (-2) v8 κ6 h
    · have h := if_t h q
      refine j_bipush (v := (-3)) K d_ErrataRow_ruled_22 (by decide) ?_
      exact eret_i K h hr hlk d_ErrataRow_ruled_24
def b_ErrataRow_keepPutsOfRuled_4 (N : Nat) : Nat → Nat → Int32 → Int32 → Int32 → Cz → Option (Int32 × Cz)
  | 0, _, _, _, _, _ => none
  | n + 1, x0, x1, x2, x3, κ => ck (isK κ x0 11) (if (fi κ x0 6) ≤ x3 then some (x2, κ) else bo (p_ErrataRow_startByRule N x0 x3 κ) (fun κ2 => ck (isK κ2 x0 11) (bd (p_ErrataRow_areNotesSo N x0 κ2) (fun r3 κ3 => if r3 = 0 then lt (x3 + 1) (fun v5 => b_ErrataRow_keepPutsOfRuled_4 N n x0 x1 x2 v5 κ3) else ck (isK κ3 x0 11) (bo (p_ErrataRow_startByRule N x0 x3 κ3) (fun κ6 => ck (isK κ6 x0 11) (bo (p_ErrataRow_goOn N x0 (x1 + 1) κ6) (fun κ8 => ck (isK κ8 x0 11) (bo (fr κ8 x0 14) (fun o11 => bo (fr κ8 x0 12) (fun o12 => ck (isK κ8 o12 8) (bo (fr κ8 o12 0) (fun o14 => bd (p_ErrataRow_packed N o14 κ8) (fun r15 κ15 => ck (isK κ15 o11 20) (ck (inb x2 (ln κ15 o11)) (lt (sai o11 (upd (ai κ15 o11) x2.toNatClampNeg r15) κ15) (fun κ18 => lt (x2 + 1) (fun v19 => lt (x3 + 1) (fun v20 => b_ErrataRow_keepPutsOfRuled_4 N n x0 x1 v19 v20 κ18)))))))))))))))))))
set_option maxHeartbeats 4000000 in
set_option maxRecDepth 100000 in
theorem t_ErrataRow_keepPutsOfRuled_4 {p : Program} {l : Launch} {e : Env} {s : State} {m : MethodId} {args : Array Value} {below : List Frame} {meth : Method} {c : Code} {D : va_G} {θ : Tc} {A : Nat → Prop} (K : KE p s m args c c_ErrataRow_keepPutsOfRuled 4 "ErrataRow" y_ErrataRow_keepPutsOfRuled (some .int) D θ A) (hN : NX s) (hr : meth.sig.returnType = (some .int)) (hlk : meth.locks = false) (N : Nat) (ρ : Int32 × Cz) : ∀ (n : Nat) (x0 : Nat) (x1 : Int32) (x2 : Int32) (x3 : Int32) (κ : Cz), b_ErrataRow_keepPutsOfRuled_4 N n x0 x1 x2 x3 κ = some ρ → JE p l e (rmA 7 0 0) s m args below meth c D θ A 4 0 0 (QEi below args s D θ A 0 0 ρ) κ [(0, .ref x0), (1, .int x1), (2, .int x2), (3, .int x3)] [] 4 := by
  intro n
  induction n with
  | zero =>
    intro x0 x1 x2 x3 κ h
    exact absurd h (by simp [b_ErrataRow_keepPutsOfRuled_4])
  | succ n ih =>
    intro x0 x1 x2 x3 κ h
    rw [b_ErrataRow_keepPutsOfRuled_4] at h
    refine j_iload_n K 3 d_ErrataRow_keepPutsOfRuled_4 rfl rfl ?_
    refine j_aload_n K 0 d_ErrataRow_keepPutsOfRuled_5 rfl rfl ?_
    obtain ⟨q1, h⟩ := ck_e h
    refine eg_ErrataRow_ruleCount K ef_ErrataRow_128 q1 d_ErrataRow_keepPutsOfRuled_6 ?_
    refine j_icmp_ge (tgt := 61) K d_ErrataRow_keepPutsOfRuled_9 (by decide) (fun q => ?_) (fun q => ?_)
    · have h := if_t h q
      refine j_iload_n K 2 d_ErrataRow_keepPutsOfRuled_61 rfl rfl ?_
      exact eret_i K h hr hlk d_ErrataRow_keepPutsOfRuled_62
    · have h := if_f h q
      refine j_aload_n K 0 d_ErrataRow_keepPutsOfRuled_12 rfl rfl ?_
      refine j_iload_n K 3 d_ErrataRow_keepPutsOfRuled_13 rfl rfl ?_
      obtain ⟨κ2, e2, h⟩ := bo_e h
      refine ecallV_v K hN (c_ErrataRow_startByRule_ok l D θ N x0 x3 κ _ e2) eG_ErrataRow_340 eh_ErrataRow_startByRule (by decide) (rmA_ok (by decide) (by decide)) rfl q1 (by decide) rfl (st := []) (Nat.le_of_ble_eq_true rfl) rfl d_ErrataRow_keepPutsOfRuled_14 ⟨Nat.le_of_ble_eq_true rfl, Nat.le_of_ble_eq_true rfl⟩ ?_
      refine j_aload_n K 0 d_ErrataRow_keepPutsOfRuled_17 rfl rfl ?_
      obtain ⟨q4, h⟩ := ck_e h
      obtain ⟨r3, κ3, e3, h⟩ := bd_e h
      refine ecallV_i K hN (c_ErrataRow_areNotesSo_ok l D θ N x0 κ2 _ e3) eG_ErrataRow_329 eh_ErrataRow_areNotesSo (by decide) (rmA_ok (by decide) (by decide)) rfl q4 (by decide) rfl (st := []) (Nat.le_of_ble_eq_true rfl) rfl d_ErrataRow_keepPutsOfRuled_18 ⟨Nat.le_of_ble_eq_true rfl, Nat.le_of_ble_eq_true rfl⟩ ?_
      refine j_if_eq (tgt := 55) K d_ErrataRow_keepPutsOfRuled_21 (by decide) (fun q => ?_) (fun q => ?_)
      · have h := if_t h q
        obtain ⟨v5, e5, h⟩ := lt_e h
        refine j_iinc (k := 3) (v := v5) (lv' := [(3, .int v5), (0, .ref x0), (1, .int x1), (2, .int x2)]) K d_ErrataRow_keepPutsOfRuled_55 rfl (by rw [e5]; rfl) (by decide) rfl ?_
        refine j_goto (tgt := 4) K d_ErrataRow_keepPutsOfRuled_58 (by decide) ?_
        refine j_sub [1, 2, 3, 0] rfl ?_
        exact ih x0 x1 x2 v5 κ3 h
      · have h := if_f h q
        refine j_aload_n K 0 d_ErrataRow_keepPutsOfRuled_24 rfl rfl ?_
        refine j_iload_n K 3 d_ErrataRow_keepPutsOfRuled_25 rfl rfl ?_
        obtain ⟨q7, h⟩ := ck_e h
        obtain ⟨κ6, e6, h⟩ := bo_e h
        refine ecallV_v K hN (c_ErrataRow_startByRule_ok l D θ N x0 x3 κ3 _ e6) eG_ErrataRow_340 eh_ErrataRow_startByRule (by decide) (rmA_ok (by decide) (by decide)) rfl q7 (by decide) rfl (st := []) (Nat.le_of_ble_eq_true rfl) rfl d_ErrataRow_keepPutsOfRuled_26 ⟨Nat.le_of_ble_eq_true rfl, Nat.le_of_ble_eq_true rfl⟩ ?_
        refine j_aload_n K 0 d_ErrataRow_keepPutsOfRuled_29 rfl rfl ?_
        refine j_iload_n K 1 d_ErrataRow_keepPutsOfRuled_30 rfl rfl ?_
        refine j_iconst (v := 1) K d_ErrataRow_keepPutsOfRuled_31 (by decide) ?_
        refine j_iadd K d_ErrataRow_keepPutsOfRuled_32 ?_
        obtain ⟨q9, h⟩ := ck_e h
        obtain ⟨κ8, e8, h⟩ := bo_e h
        refine ecallV_v K hN (c_ErrataRow_goOn_ok l D θ N x0 (x1 + 1) κ6 _ e8) eG_ErrataRow_255 eh_ErrataRow_goOn (by decide) (rmA_ok (by decide) (by decide)) rfl q9 (by decide) rfl (st := []) (Nat.le_of_ble_eq_true rfl) rfl d_ErrataRow_keepPutsOfRuled_33 ⟨Nat.le_of_ble_eq_true rfl, Nat.le_of_ble_eq_true rfl⟩ ?_
        refine j_aload_n K 0 d_ErrataRow_keepPutsOfRuled_36 rfl rfl ?_
        obtain ⟨q10, h⟩ := ck_e h
        refine eg_ErrataRow_scratch K ef_ErrataRow_92 q10 d_ErrataRow_keepPutsOfRuled_37 ?_
        obtain ⟨o11, e11, h⟩ := bo_e h
        refine j_eqq e11 ?_
        refine j_iload_n K 2 d_ErrataRow_keepPutsOfRuled_40 rfl rfl ?_
        refine j_aload_n K 0 d_ErrataRow_keepPutsOfRuled_41 rfl rfl ?_
        refine eg_ErrataRow_trial K ef_ErrataRow_85 q10 d_ErrataRow_keepPutsOfRuled_42 ?_
        obtain ⟨o12, e12, h⟩ := bo_e h
        refine j_eqq e12 ?_
        obtain ⟨q13, h⟩ := ck_e h
        refine eg_State_put K ef_ErrataRow_148 q13 d_ErrataRow_keepPutsOfRuled_45 ?_
        obtain ⟨o14, e14, h⟩ := bo_e h
        refine j_eqq e14 ?_
        obtain ⟨r15, κ15, e15, h⟩ := bd_e h
        refine ecallS_i K hN (c_ErrataRow_packed_ok l D θ N o14 κ8 _ e15) eG_ErrataRow_280 eh_ErrataRow_packed (by decide) (rmA_ok (by decide) (by decide)) rfl (st := [.int x2, .ref o11]) (Nat.le_of_ble_eq_true rfl) rfl d_ErrataRow_keepPutsOfRuled_48 ⟨Nat.le_of_ble_eq_true rfl, Nat.le_of_ble_eq_true rfl⟩ ?_
        obtain ⟨q16, h⟩ := ck_e h
        obtain ⟨q17, h⟩ := ck_e h
        obtain ⟨κ18, e18, h⟩ := lt_e h
        refine e_iast K q16 (inb_e q17) d_ErrataRow_keepPutsOfRuled_51 e18 ?_
        obtain ⟨v19, e19, h⟩ := lt_e h
        refine j_iinc (k := 2) (v := v19) (lv' := [(2, .int v19), (0, .ref x0), (1, .int x1), (3, .int x3)]) K d_ErrataRow_keepPutsOfRuled_52 rfl (by rw [e19]; rfl) (by decide) rfl ?_
        obtain ⟨v20, e20, h⟩ := lt_e h
        refine j_iinc (k := 3) (v := v20) (lv' := [(3, .int v20), (2, .int v19), (0, .ref x0), (1, .int x1)]) K d_ErrataRow_keepPutsOfRuled_55 rfl (by rw [e20]; rfl) (by decide) rfl ?_
        refine j_goto (tgt := 4) K d_ErrataRow_keepPutsOfRuled_58 (by decide) ?_
        refine j_sub [2, 3, 1, 0] rfl ?_
        exact ih x0 x1 v19 v20 κ18 h
def p_ErrataRow_keepPutsOfRuled (N : Nat) (this : Nat) (a1 : Int32) (κ : Cz) : Option (Int32 × Cz) := b_ErrataRow_keepPutsOfRuled_4 N N this a1 0 (-1) κ
set_option maxHeartbeats 4000000 in
set_option maxRecDepth 100000 in
theorem c_ErrataRow_keepPutsOfRuled_ok (l : Launch) (D : va_G) (θ : Tc) (N : Nat) (this : Nat) (a1 : Int32) (κ : Cz) (ρ : Int32 × Cz) (h : p_ErrataRow_keepPutsOfRuled N this a1 κ = some ρ) : CEi l D θ y_ErrataRow_keepPutsOfRuled c_ErrataRow_keepPutsOfRuled 4 (some .int) 7 0 0 [.ref this, .int a1] κ ρ := by
  intro sz
  refine e_met l [.ref this, .int a1] (by decide +kernel) (Nat.le_of_ble_eq_true rfl) ?_
  intro p e s m args below meth c K hN hr hlk hnm hs
  generalize va_A (wE θ κ) sz = A at K ⊢
  have K : KE p s m args c c_ErrataRow_keepPutsOfRuled 4 "ErrataRow" y_ErrataRow_keepPutsOfRuled (some .int) D θ A := K
  show JE p l e (rmA 7 0 0) s m args below meth c D θ A 4 0 0 (QEi below args s D θ A 0 0 ρ) κ [(0, .ref this), (1, .int a1)] [] 0
  unfold p_ErrataRow_keepPutsOfRuled at h
  refine j_iconst (v := 0) K d_ErrataRow_keepPutsOfRuled_0 (by decide) ?_
  refine j_istore_n (lv' := [(2, .int 0), (0, .ref this), (1, .int a1)]) K d_ErrataRow_keepPutsOfRuled_1 rfl (by decide) rfl ?_
  refine j_iconst (v := (-1)) K d_ErrataRow_keepPutsOfRuled_2 (by decide) ?_
  refine j_istore_n (lv' := [(3, .int (-1)), (2, .int 0), (0, .ref this), (1, .int a1)]) K d_ErrataRow_keepPutsOfRuled_3 rfl (by decide) rfl ?_
  refine j_sub [2, 3, 1, 0] rfl ?_
  exact t_ErrataRow_keepPutsOfRuled_4 K hN hr hlk N ρ N this a1 0 (-1) κ h
def b_ErrataRow_one_67 (N : Nat) (k50 : Nat → Int32 → Int32 → Int32 → Cz → Option (Int32 × Cz)) : Nat → Nat → Int32 → Int32 → Int32 → Int32 → Cz → Option (Int32 × Cz)
  | 0, _, _, _, _, _, _ => none
  | n + 1, x0, x1, x2, x3, x4, κ => if 8 ≤ x4 then lt (x3 + 1) (fun v20 => k50 x0 x1 x2 v20 κ) else ck (isK κ x0 11) (bd (p_ErrataRow_wrongAhead N x0 x3 x4 x1 κ) (fun r21 κ21 => ck (isK κ21 x0 11) (bo (fr κ21 x0 13) (fun o24 => ck (isK κ21 o24 20) (ck (inb (0 : Int32) (ln κ21 o24)) (if (ai κ21 o24 (0 : Int32).toNatClampNeg) ≤ r21 then lt (x4 + 1) (fun v27 => b_ErrataRow_one_67 N k50 n x0 x1 x2 x3 v27 κ21) else bo (p_ErrataRow_keepFound N x0 r21 x3 x4 κ21) (fun κ28 => lt (x4 + 1) (fun v29 => b_ErrataRow_one_67 N k50 n x0 x1 x2 x3 v29 κ28))))))))
set_option maxHeartbeats 4000000 in
set_option maxRecDepth 100000 in
theorem t_ErrataRow_one_67 {p : Program} {l : Launch} {e : Env} {s : State} {m : MethodId} {args : Array Value} {below : List Frame} {meth : Method} {c : Code} {D : va_G} {θ : Tc} {A : Nat → Prop} (K : KE p s m args c c_ErrataRow_one 6 "ErrataRow" y_ErrataRow_one (some .int) D θ A) (hN : NX s) (hr : meth.sig.returnType = (some .int)) (hlk : meth.locks = false) (N : Nat) (ρ : Int32 × Cz) (k50 : Nat → Int32 → Int32 → Int32 → Cz → Option (Int32 × Cz)) (hk50 : ∀ (x0 : Nat) (x1 : Int32) (x2 : Int32) (x3 : Int32) (κ : Cz), k50 x0 x1 x2 x3 κ = some ρ → JE p l e (rmA 8 0 0) s m args below meth c D θ A 6 0 0 (QEi below args s D θ A 0 0 ρ) κ [(0, .ref x0), (1, .int x1), (2, .int x2), (3, .int x3)] [] 50) : ∀ (n : Nat) (x0 : Nat) (x1 : Int32) (x2 : Int32) (x3 : Int32) (x4 : Int32) (κ : Cz), b_ErrataRow_one_67 N k50 n x0 x1 x2 x3 x4 κ = some ρ → JE p l e (rmA 8 0 0) s m args below meth c D θ A 6 0 0 (QEi below args s D θ A 0 0 ρ) κ [(0, .ref x0), (1, .int x1), (2, .int x2), (3, .int x3), (4, .int x4)] [] 67 := by
  intro n
  induction n with
  | zero =>
    intro x0 x1 x2 x3 x4 κ h
    exact absurd h (by simp [b_ErrataRow_one_67])
  | succ n ih =>
    intro x0 x1 x2 x3 x4 κ h
    rw [b_ErrataRow_one_67] at h
    refine j_iload K 4 d_ErrataRow_one_67 rfl ?_
    refine j_bipush (v := 8) K d_ErrataRow_one_69 (by decide) ?_
    refine j_icmp_ge (tgt := 110) K d_ErrataRow_one_71 (by decide) (fun q => ?_) (fun q => ?_)
    · have h := if_t h q
      obtain ⟨v20, e20, h⟩ := lt_e h
      refine j_iinc (k := 3) (v := v20) (lv' := [(3, .int v20), (0, .ref x0), (1, .int x1), (2, .int x2), (4, .int x4)]) K d_ErrataRow_one_110 rfl (by rw [e20]; rfl) (by decide) rfl ?_
      refine j_goto (tgt := 50) K d_ErrataRow_one_113 (by decide) ?_
      refine j_sub [1, 2, 3, 0] rfl ?_
      exact hk50 x0 x1 x2 v20 κ h
    · have h := if_f h q
      refine j_aload_n K 0 d_ErrataRow_one_74 rfl rfl ?_
      refine j_iload_n K 3 d_ErrataRow_one_75 rfl rfl ?_
      refine j_iload K 4 d_ErrataRow_one_76 rfl ?_
      refine j_iload_n K 1 d_ErrataRow_one_78 rfl rfl ?_
      obtain ⟨q22, h⟩ := ck_e h
      obtain ⟨r21, κ21, e21, h⟩ := bd_e h
      refine ecallV_i K hN (c_ErrataRow_wrongAhead_ok l D θ N x0 x3 x4 x1 κ _ e21) eG_ErrataRow_297 eh_ErrataRow_wrongAhead (by decide) (rmA_ok (by decide) (by decide)) rfl q22 (by decide) rfl (st := []) (Nat.le_of_ble_eq_true rfl) rfl d_ErrataRow_one_79 ⟨Nat.le_of_ble_eq_true rfl, Nat.le_of_ble_eq_true rfl⟩ ?_
      refine j_istore (lv' := [(5, .int r21), (0, .ref x0), (1, .int x1), (2, .int x2), (3, .int x3), (4, .int x4)]) K d_ErrataRow_one_82 (by decide) rfl ?_
      refine j_iload K 0 d_ErrataRow_one_84 rfl ?_
      refine j_aload_n K 1 d_ErrataRow_one_86 rfl rfl ?_
      obtain ⟨q23, h⟩ := ck_e h
      refine eg_ErrataRow_found K ef_ErrataRow_89 q23 d_ErrataRow_one_87 ?_
      obtain ⟨o24, e24, h⟩ := bo_e h
      refine j_eqq e24 ?_
      refine j_iconst (v := 0) K d_ErrataRow_one_90 (by decide) ?_
      obtain ⟨q25, h⟩ := ck_e h
      obtain ⟨q26, h⟩ := ck_e h
      refine e_iald K q25 (inb_e q26) d_ErrataRow_one_91 ?_
      refine j_icmp_ge (tgt := 104) K d_ErrataRow_one_92 (by decide) (fun q => ?_) (fun q => ?_)
      · have h := if_t h q
        obtain ⟨v27, e27, h⟩ := lt_e h
        refine j_iinc (k := 5) (v := v27) (lv' := [(4, .int v27), (5, .int r21), (0, .ref x0), (1, .int x1), (2, .int x2), (3, .int x3)]) K d_ErrataRow_one_104 rfl (by rw [e27]; rfl) (by decide) rfl ?_
        refine j_goto (tgt := 67) K d_ErrataRow_one_107 (by decide) ?_
        refine j_sub [2, 3, 4, 5, 0] rfl ?_
        exact ih x0 x1 x2 x3 v27 κ21 h
      · have h := if_f h q
        refine j_aload_n K 1 d_ErrataRow_one_95 rfl rfl ?_
        refine j_iload K 0 d_ErrataRow_one_96 rfl ?_
        refine j_iload_n K 4 d_ErrataRow_one_98 rfl rfl ?_
        refine j_iload K 5 d_ErrataRow_one_99 rfl ?_
        obtain ⟨κ28, e28, h⟩ := bo_e h
        refine ecallV_v K hN (c_ErrataRow_keepFound_ok l D θ N x0 r21 x3 x4 κ21 _ e28) eG_ErrataRow_293 eh_ErrataRow_keepFound (by decide) (rmA_ok (by decide) (by decide)) rfl q23 (by decide) rfl (st := []) (Nat.le_of_ble_eq_true rfl) rfl d_ErrataRow_one_101 ⟨Nat.le_of_ble_eq_true rfl, Nat.le_of_ble_eq_true rfl⟩ ?_
        obtain ⟨v29, e29, h⟩ := lt_e h
        refine j_iinc (k := 5) (v := v29) (lv' := [(4, .int v29), (5, .int r21), (0, .ref x0), (1, .int x1), (2, .int x2), (3, .int x3)]) K d_ErrataRow_one_104 rfl (by rw [e29]; rfl) (by decide) rfl ?_
        refine j_goto (tgt := 67) K d_ErrataRow_one_107 (by decide) ?_
        refine j_sub [2, 3, 4, 5, 0] rfl ?_
        exact ih x0 x1 x2 x3 v29 κ28 h
def b_ErrataRow_one_50 (N : Nat) : Nat → Nat → Int32 → Int32 → Int32 → Cz → Option (Int32 × Cz)
  | 0, _, _, _, _, _ => none
  | n + 1, x0, x1, x2, x3, κ => ck (isK κ x0 11) (bo (fr κ x0 7) (fun o13 => ck (isK κ o13 10) (bo (fr κ o13 0) (fun o15 => ck (isK κ o15 0) (if (fi κ o15 2) ≤ x3 then bo (fr κ x0 13) (fun o17 => ck (isK κ o17 20) (ck (inb x2 (ln κ o17)) (some (ai κ o17 x2.toNatClampNeg, κ)))) else b_ErrataRow_one_67 N (b_ErrataRow_one_50 N n) N x0 x1 x2 x3 0 κ)))))
set_option maxHeartbeats 4000000 in
set_option maxRecDepth 100000 in
theorem t_ErrataRow_one_50 {p : Program} {l : Launch} {e : Env} {s : State} {m : MethodId} {args : Array Value} {below : List Frame} {meth : Method} {c : Code} {D : va_G} {θ : Tc} {A : Nat → Prop} (K : KE p s m args c c_ErrataRow_one 6 "ErrataRow" y_ErrataRow_one (some .int) D θ A) (hN : NX s) (hr : meth.sig.returnType = (some .int)) (hlk : meth.locks = false) (N : Nat) (ρ : Int32 × Cz) : ∀ (n : Nat) (x0 : Nat) (x1 : Int32) (x2 : Int32) (x3 : Int32) (κ : Cz), b_ErrataRow_one_50 N n x0 x1 x2 x3 κ = some ρ → JE p l e (rmA 8 0 0) s m args below meth c D θ A 6 0 0 (QEi below args s D θ A 0 0 ρ) κ [(0, .ref x0), (1, .int x1), (2, .int x2), (3, .int x3)] [] 50 := by
  intro n
  induction n with
  | zero =>
    intro x0 x1 x2 x3 κ h
    exact absurd h (by simp [b_ErrataRow_one_50])
  | succ n ih =>
    intro x0 x1 x2 x3 κ h
    rw [b_ErrataRow_one_50] at h
    refine j_iload_n K 3 d_ErrataRow_one_50 rfl rfl ?_
    refine j_aload_n K 0 d_ErrataRow_one_51 rfl rfl ?_
    obtain ⟨q12, h⟩ := ck_e h
    refine eg_ErrataRow_world K ef_ErrataRow_45 q12 d_ErrataRow_one_52 ?_
    obtain ⟨o13, e13, h⟩ := bo_e h
    refine j_eqq e13 ?_
    obtain ⟨q14, h⟩ := ck_e h
    refine eg_World_book K ef_ErrataRow_62 q14 d_ErrataRow_one_55 ?_
    obtain ⟨o15, e15, h⟩ := bo_e h
    refine j_eqq e15 ?_
    obtain ⟨q16, h⟩ := ck_e h
    refine eg_Book_letters K ef_ErrataRow_123 q16 d_ErrataRow_one_58 ?_
    refine j_icmp_ge (tgt := 116) K d_ErrataRow_one_61 (by decide) (fun q => ?_) (fun q => ?_)
    · have h := if_t h q
      refine j_aload_n K 0 d_ErrataRow_one_116 rfl rfl ?_
      refine eg_ErrataRow_found K ef_ErrataRow_89 q12 d_ErrataRow_one_117 ?_
      obtain ⟨o17, e17, h⟩ := bo_e h
      refine j_eqq e17 ?_
      refine j_iload_n K 2 d_ErrataRow_one_120 rfl rfl ?_
      obtain ⟨q18, h⟩ := ck_e h
      obtain ⟨q19, h⟩ := ck_e h
      refine e_iald K q18 (inb_e q19) d_ErrataRow_one_121 ?_
      exact eret_i K h hr hlk d_ErrataRow_one_122
    · have h := if_f h q
      refine j_iconst (v := 0) K d_ErrataRow_one_64 (by decide) ?_
      refine j_istore (lv' := [(4, .int 0), (0, .ref x0), (1, .int x1), (2, .int x2), (3, .int x3)]) K d_ErrataRow_one_65 (by decide) rfl ?_
      refine j_sub [1, 2, 3, 4, 0] rfl ?_
      exact t_ErrataRow_one_67 K hN hr hlk N ρ (b_ErrataRow_one_50 N n) ih N x0 x1 x2 x3 0 κ h
def p_ErrataRow_one (N : Nat) (this : Nat) (a1 : Int32) (a2 : Int32) (κ : Cz) : Option (Int32 × Cz) := ck (isK κ this 11) (bo (fr κ this 7) (fun o2 => ck (isK κ o2 10) (bo (fr κ o2 0) (fun o4 => ck (isK κ o4 0) (if (fi κ o4 0) = 0 then some ((-2), κ) else bd (p_ErrataRow_within N a1 1 40 κ) (fun r6 κ6 => if r6 = 0 then some ((-2), κ6) else bd (p_ErrataRow_within N a2 0 2 κ6) (fun r7 κ7 => if r7 = 0 then some ((-2), κ7) else ck (isK κ7 this 11) (bd (p_ErrataRow_wrongAhead N this (-1) (-1) a1 κ7) (fun r8 κ8 => ck (isK κ8 this 11) (bo (p_ErrataRow_keepFound N this r8 (-1) (-1) κ8) (fun κ10 => b_ErrataRow_one_50 N N this a1 a2 0 κ10)))))))))))
set_option maxHeartbeats 4000000 in
set_option maxRecDepth 100000 in
theorem c_ErrataRow_one_ok (l : Launch) (D : va_G) (θ : Tc) (N : Nat) (this : Nat) (a1 : Int32) (a2 : Int32) (κ : Cz) (ρ : Int32 × Cz) (h : p_ErrataRow_one N this a1 a2 κ = some ρ) : CEi l D θ y_ErrataRow_one c_ErrataRow_one 6 (some .int) 8 0 0 [.ref this, .int a1, .int a2] κ ρ := by
  intro sz
  refine e_met l [.ref this, .int a1, .int a2] (by decide +kernel) (Nat.le_of_ble_eq_true rfl) ?_
  intro p e s m args below meth c K hN hr hlk hnm hs
  generalize va_A (wE θ κ) sz = A at K ⊢
  have K : KE p s m args c c_ErrataRow_one 6 "ErrataRow" y_ErrataRow_one (some .int) D θ A := K
  show JE p l e (rmA 8 0 0) s m args below meth c D θ A 6 0 0 (QEi below args s D θ A 0 0 ρ) κ [(0, .ref this), (1, .int a1), (2, .int a2)] [] 0
  unfold p_ErrataRow_one at h
  refine j_aload_n K 0 d_ErrataRow_one_0 rfl rfl ?_
  obtain ⟨q1, h⟩ := ck_e h
  refine eg_ErrataRow_world K ef_ErrataRow_45 q1 d_ErrataRow_one_1 ?_
  obtain ⟨o2, e2, h⟩ := bo_e h
  refine j_eqq e2 ?_
  obtain ⟨q3, h⟩ := ck_e h
  refine eg_World_book K ef_ErrataRow_62 q3 d_ErrataRow_one_4 ?_
  obtain ⟨o4, e4, h⟩ := bo_e h
  refine j_eqq e4 ?_
  obtain ⟨q5, h⟩ := ck_e h
  refine eg_Book_told K ef_ErrataRow_160 q5 d_ErrataRow_one_7 ?_
  refine j_if_eq (tgt := 32) K d_ErrataRow_one_10 (by decide) (fun q => ?_) (fun q => ?_)
  · have h := if_t h q
    refine j_bipush (v := (-2)) K d_ErrataRow_one_32 (by decide) ?_
    exact eret_i K h hr hlk d_ErrataRow_one_34
  · have h := if_f h q
    refine j_iload_n K 1 d_ErrataRow_one_13 rfl rfl ?_
    refine j_iconst (v := 1) K d_ErrataRow_one_14 (by decide) ?_
    refine j_bipush (v := 40) K d_ErrataRow_one_15 (by decide) ?_
    obtain ⟨r6, κ6, e6, h⟩ := bd_e h
    refine ecallS_i K hN (c_ErrataRow_within_ok l D θ N a1 1 40 κ _ e6) eG_ErrataRow_166 eh_ErrataRow_within (by decide) (rmA_ok (by decide) (by decide)) rfl (st := []) (Nat.le_of_ble_eq_true rfl) rfl d_ErrataRow_one_17 ⟨Nat.le_of_ble_eq_true rfl, Nat.le_of_ble_eq_true rfl⟩ ?_
    refine j_if_eq (tgt := 32) K d_ErrataRow_one_20 (by decide) (fun q => ?_) (fun q => ?_)
    · have h := if_t h q
      refine j_bipush (v := (-2)) K d_ErrataRow_one_32 (by decide) ?_
      exact eret_i K h hr hlk d_ErrataRow_one_34
    · have h := if_f h q
      refine j_iload_n K 2 d_ErrataRow_one_23 rfl rfl ?_
      refine j_iconst (v := 0) K d_ErrataRow_one_24 (by decide) ?_
      refine j_iconst (v := 2) K d_ErrataRow_one_25 (by decide) ?_
      obtain ⟨r7, κ7, e7, h⟩ := bd_e h
      refine ecallS_i K hN (c_ErrataRow_within_ok l D θ N a2 0 2 κ6 _ e7) eG_ErrataRow_166 eh_ErrataRow_within (by decide) (rmA_ok (by decide) (by decide)) rfl (st := []) (Nat.le_of_ble_eq_true rfl) rfl d_ErrataRow_one_26 ⟨Nat.le_of_ble_eq_true rfl, Nat.le_of_ble_eq_true rfl⟩ ?_
      refine j_if_ne (tgt := 35) K d_ErrataRow_one_29 (by decide) (fun q => ?_) (fun q => ?_)
      · have h := if_f h q
        refine j_aload_n K 0 d_ErrataRow_one_35 rfl rfl ?_
        refine j_aload_n K 0 d_ErrataRow_one_36 rfl rfl ?_
        refine j_iconst (v := (-1)) K d_ErrataRow_one_37 (by decide) ?_
        refine j_iconst (v := (-1)) K d_ErrataRow_one_38 (by decide) ?_
        refine j_iload_n K 1 d_ErrataRow_one_39 rfl rfl ?_
        obtain ⟨q9, h⟩ := ck_e h
        obtain ⟨r8, κ8, e8, h⟩ := bd_e h
        refine ecallV_i K hN (c_ErrataRow_wrongAhead_ok l D θ N this (-1) (-1) a1 κ7 _ e8) eG_ErrataRow_297 eh_ErrataRow_wrongAhead (by decide) (rmA_ok (by decide) (by decide)) rfl q9 (by decide) rfl (st := [.ref this]) (Nat.le_of_ble_eq_true rfl) rfl d_ErrataRow_one_40 ⟨Nat.le_of_ble_eq_true rfl, Nat.le_of_ble_eq_true rfl⟩ ?_
        refine j_iconst (v := (-1)) K d_ErrataRow_one_43 (by decide) ?_
        refine j_iconst (v := (-1)) K d_ErrataRow_one_44 (by decide) ?_
        obtain ⟨q11, h⟩ := ck_e h
        obtain ⟨κ10, e10, h⟩ := bo_e h
        refine ecallV_v K hN (c_ErrataRow_keepFound_ok l D θ N this r8 (-1) (-1) κ8 _ e10) eG_ErrataRow_293 eh_ErrataRow_keepFound (by decide) (rmA_ok (by decide) (by decide)) rfl q11 (by decide) rfl (st := []) (Nat.le_of_ble_eq_true rfl) rfl d_ErrataRow_one_45 ⟨Nat.le_of_ble_eq_true rfl, Nat.le_of_ble_eq_true rfl⟩ ?_
        refine j_iconst (v := 0) K d_ErrataRow_one_48 (by decide) ?_
        refine j_istore_n (lv' := [(3, .int 0), (0, .ref this), (1, .int a1), (2, .int a2)]) K d_ErrataRow_one_49 rfl (by decide) rfl ?_
        refine j_sub [1, 2, 3, 0] rfl ?_
        exact t_ErrataRow_one_50 K hN hr hlk N ρ N this a1 a2 0 κ10 h
      · have h := if_t h q
        refine j_bipush (v := (-2)) K d_ErrataRow_one_32 (by decide) ?_
        exact eret_i K h hr hlk d_ErrataRow_one_34
def b_ErrataRow_leastPurse_69 (N : Nat) : Nat → Nat → Int32 → Int32 → Cz → Option (Int32 × Cz)
  | 0, _, _, _, _ => none
  | n + 1, x0, x1, x2, κ => if 999 < x2 then some ((-2), κ) else ck (isK κ x0 11) (bd (p_ErrataRow_isEnough N x0 x2 x1 κ) (fun r23 κ23 => if r23 = 0 then lt (x2 + 1) (fun v25 => b_ErrataRow_leastPurse_69 N n x0 x1 v25 κ23) else some (x2, κ23)))
set_option maxHeartbeats 4000000 in
set_option maxRecDepth 100000 in
theorem t_ErrataRow_leastPurse_69 {p : Program} {l : Launch} {e : Env} {s : State} {m : MethodId} {args : Array Value} {below : List Frame} {meth : Method} {c : Code} {D : va_G} {θ : Tc} {A : Nat → Prop} (K : KE p s m args c c_ErrataRow_leastPurse 3 "ErrataRow" y_ErrataRow_leastPurse (some .int) D θ A) (hN : NX s) (hr : meth.sig.returnType = (some .int)) (hlk : meth.locks = false) (N : Nat) (ρ : Int32 × Cz) : ∀ (n : Nat) (x0 : Nat) (x1 : Int32) (x2 : Int32) (κ : Cz), b_ErrataRow_leastPurse_69 N n x0 x1 x2 κ = some ρ → JE p l e (rmA 8 0 0) s m args below meth c D θ A 3 0 0 (QEi below args s D θ A 0 0 ρ) κ [(0, .ref x0), (1, .int x1), (2, .int x2)] [] 69 := by
  intro n
  induction n with
  | zero =>
    intro x0 x1 x2 κ h
    exact absurd h (by simp [b_ErrataRow_leastPurse_69])
  | succ n ih =>
    intro x0 x1 x2 κ h
    rw [b_ErrataRow_leastPurse_69] at h
    refine j_iload_n K 2 d_ErrataRow_leastPurse_69 rfl rfl ?_
    refine j_sipush (v := 999) K d_ErrataRow_leastPurse_70 (by decide) ?_
    refine j_icmp_gt (tgt := 93) K d_ErrataRow_leastPurse_73 (by decide) (fun q => ?_) (fun q => ?_)
    · have h := if_t h q
      refine j_bipush (v := (-2)) K d_ErrataRow_leastPurse_93 (by decide) ?_
      exact eret_i K h hr hlk d_ErrataRow_leastPurse_95
    · have h := if_f h q
      refine j_aload_n K 0 d_ErrataRow_leastPurse_76 rfl rfl ?_
      refine j_iload_n K 2 d_ErrataRow_leastPurse_77 rfl rfl ?_
      refine j_iload_n K 1 d_ErrataRow_leastPurse_78 rfl rfl ?_
      obtain ⟨q24, h⟩ := ck_e h
      obtain ⟨r23, κ23, e23, h⟩ := bd_e h
      refine ecallV_i K hN (c_ErrataRow_isEnough_ok l D θ N x0 x2 x1 κ _ e23) eG_ErrataRow_310 eh_ErrataRow_isEnough (by decide) (rmA_ok (by decide) (by decide)) rfl q24 (by decide) rfl (st := []) (Nat.le_of_ble_eq_true rfl) rfl d_ErrataRow_leastPurse_79 ⟨Nat.le_of_ble_eq_true rfl, Nat.le_of_ble_eq_true rfl⟩ ?_
      refine j_if_eq (tgt := 87) K d_ErrataRow_leastPurse_82 (by decide) (fun q => ?_) (fun q => ?_)
      · have h := if_t h q
        obtain ⟨v25, e25, h⟩ := lt_e h
        refine j_iinc (k := 2) (v := v25) (lv' := [(2, .int v25), (0, .ref x0), (1, .int x1)]) K d_ErrataRow_leastPurse_87 rfl (by rw [e25]; rfl) (by decide) rfl ?_
        refine j_goto (tgt := 69) K d_ErrataRow_leastPurse_90 (by decide) ?_
        refine j_sub [1, 2, 0] rfl ?_
        exact ih x0 x1 v25 κ23 h
      · have h := if_f h q
        refine j_iload_n K 2 d_ErrataRow_leastPurse_85 rfl rfl ?_
        exact eret_i K h hr hlk d_ErrataRow_leastPurse_86
def p_ErrataRow_leastPurse (N : Nat) (this : Nat) (a1 : Int32) (κ : Cz) : Option (Int32 × Cz) := ck (isK κ this 11) (bo (fr κ this 7) (fun o2 => ck (isK κ o2 10) (bo (fr κ o2 0) (fun o4 => ck (isK κ o4 0) (if (fi κ o4 0) = 0 then some ((-1), κ) else bd (p_ErrataRow_within N a1 1 40 κ) (fun r6 κ6 => if r6 = 0 then some ((-1), κ6) else ck (isK κ6 this 11) (bo (fr κ6 this 7) (fun o8 => ck (isK κ6 o8 10) (bo (fr κ6 o8 1) (fun o10 => bo (p_ErrataRow_startFrom N this o10 κ6) (fun κ11 => ck (isK κ11 this 11) (bo (fr κ11 this 10) (fun o13 => ck (isK κ11 o13 4) (oc (fr κ11 o13 2) (bd (p_ErrataRow_costOf N this a1 κ11) (fun r16 κ16 => some (r16, κ16))) (fun o15 => bo (fr κ11 this 10) (fun o17 => ck (isK κ11 o17 4) (oc (fr κ11 o17 2) (none) (fun o19 => ck (isK κ11 o19 6) (bd (p_Rule_asksFor N o19 7 κ11) (fun r21 κ21 => if r21 = 0 then ck (isK κ21 this 11) (bd (p_ErrataRow_costOf N this a1 κ21) (fun r26 κ26 => some (r26, κ26))) else b_ErrataRow_leastPurse_69 N N this a1 0 κ21))))))))))))))))))))
set_option maxHeartbeats 4000000 in
set_option maxRecDepth 100000 in
theorem c_ErrataRow_leastPurse_ok (l : Launch) (D : va_G) (θ : Tc) (N : Nat) (this : Nat) (a1 : Int32) (κ : Cz) (ρ : Int32 × Cz) (h : p_ErrataRow_leastPurse N this a1 κ = some ρ) : CEi l D θ y_ErrataRow_leastPurse c_ErrataRow_leastPurse 3 (some .int) 8 0 0 [.ref this, .int a1] κ ρ := by
  intro sz
  refine e_met l [.ref this, .int a1] (by decide +kernel) (Nat.le_of_ble_eq_true rfl) ?_
  intro p e s m args below meth c K hN hr hlk hnm hs
  generalize va_A (wE θ κ) sz = A at K ⊢
  have K : KE p s m args c c_ErrataRow_leastPurse 3 "ErrataRow" y_ErrataRow_leastPurse (some .int) D θ A := K
  show JE p l e (rmA 8 0 0) s m args below meth c D θ A 3 0 0 (QEi below args s D θ A 0 0 ρ) κ [(0, .ref this), (1, .int a1)] [] 0
  unfold p_ErrataRow_leastPurse at h
  refine j_aload_n K 0 d_ErrataRow_leastPurse_0 rfl rfl ?_
  obtain ⟨q1, h⟩ := ck_e h
  refine eg_ErrataRow_world K ef_ErrataRow_45 q1 d_ErrataRow_leastPurse_1 ?_
  obtain ⟨o2, e2, h⟩ := bo_e h
  refine j_eqq e2 ?_
  obtain ⟨q3, h⟩ := ck_e h
  refine eg_World_book K ef_ErrataRow_62 q3 d_ErrataRow_leastPurse_4 ?_
  obtain ⟨o4, e4, h⟩ := bo_e h
  refine j_eqq e4 ?_
  obtain ⟨q5, h⟩ := ck_e h
  refine eg_Book_told K ef_ErrataRow_160 q5 d_ErrataRow_leastPurse_7 ?_
  refine j_if_eq (tgt := 23) K d_ErrataRow_leastPurse_10 (by decide) (fun q => ?_) (fun q => ?_)
  · have h := if_t h q
    refine j_iconst (v := (-1)) K d_ErrataRow_leastPurse_23 (by decide) ?_
    exact eret_i K h hr hlk d_ErrataRow_leastPurse_24
  · have h := if_f h q
    refine j_iload_n K 1 d_ErrataRow_leastPurse_13 rfl rfl ?_
    refine j_iconst (v := 1) K d_ErrataRow_leastPurse_14 (by decide) ?_
    refine j_bipush (v := 40) K d_ErrataRow_leastPurse_15 (by decide) ?_
    obtain ⟨r6, κ6, e6, h⟩ := bd_e h
    refine ecallS_i K hN (c_ErrataRow_within_ok l D θ N a1 1 40 κ _ e6) eG_ErrataRow_166 eh_ErrataRow_within (by decide) (rmA_ok (by decide) (by decide)) rfl (st := []) (Nat.le_of_ble_eq_true rfl) rfl d_ErrataRow_leastPurse_17 ⟨Nat.le_of_ble_eq_true rfl, Nat.le_of_ble_eq_true rfl⟩ ?_
    refine j_if_ne (tgt := 25) K d_ErrataRow_leastPurse_20 (by decide) (fun q => ?_) (fun q => ?_)
    · have h := if_f h q
      refine j_aload_n K 0 d_ErrataRow_leastPurse_25 rfl rfl ?_
      refine j_aload_n K 0 d_ErrataRow_leastPurse_26 rfl rfl ?_
      obtain ⟨q7, h⟩ := ck_e h
      refine eg_ErrataRow_world K ef_ErrataRow_45 q7 d_ErrataRow_leastPurse_27 ?_
      obtain ⟨o8, e8, h⟩ := bo_e h
      refine j_eqq e8 ?_
      obtain ⟨q9, h⟩ := ck_e h
      refine eg_World_now K ef_ErrataRow_145 q9 d_ErrataRow_leastPurse_30 ?_
      obtain ⟨o10, e10, h⟩ := bo_e h
      refine j_eqq e10 ?_
      obtain ⟨κ11, e11, h⟩ := bo_e h
      refine ecallV_v K hN (c_ErrataRow_startFrom_ok l D θ N this o10 κ6 _ e11) eG_ErrataRow_252 eh_ErrataRow_startFrom (by decide) (rmA_ok (by decide) (by decide)) rfl q7 (by decide) rfl (st := []) (Nat.le_of_ble_eq_true rfl) rfl d_ErrataRow_leastPurse_33 ⟨Nat.le_of_ble_eq_true rfl, Nat.le_of_ble_eq_true rfl⟩ ?_
      refine j_aload_n K 0 d_ErrataRow_leastPurse_36 rfl rfl ?_
      obtain ⟨q12, h⟩ := ck_e h
      refine eg_ErrataRow_press K ef_ErrataRow_69 q12 d_ErrataRow_leastPurse_37 ?_
      obtain ⟨o13, e13, h⟩ := bo_e h
      refine j_eqq e13 ?_
      obtain ⟨q14, h⟩ := ck_e h
      refine eg_Press_rule K ef_ErrataRow_242 q14 d_ErrataRow_leastPurse_40 ?_
      rcases oc_e h with ⟨e15, h⟩ | ⟨o15, e15, h⟩
      · refine j_eqn e15 ?_
        refine e_ifnullN (tgt := 61) K d_ErrataRow_leastPurse_43 (by decide) ?_
        refine j_aload_n K 0 d_ErrataRow_leastPurse_61 rfl rfl ?_
        refine j_iload_n K 1 d_ErrataRow_leastPurse_62 rfl rfl ?_
        obtain ⟨r16, κ16, e16, h⟩ := bd_e h
        refine ecallV_i K hN (c_ErrataRow_costOf_ok l D θ N this a1 κ11 _ e16) eG_ErrataRow_307 eh_ErrataRow_costOf (by decide) (rmA_ok (by decide) (by decide)) rfl q12 (by decide) rfl (st := []) (Nat.le_of_ble_eq_true rfl) rfl d_ErrataRow_leastPurse_63 ⟨Nat.le_of_ble_eq_true rfl, Nat.le_of_ble_eq_true rfl⟩ ?_
        exact eret_i K h hr hlk d_ErrataRow_leastPurse_66
      · refine j_eqq e15 ?_
        refine e_ifnull K d_ErrataRow_leastPurse_43 ?_
        refine j_aload_n K 0 d_ErrataRow_leastPurse_46 rfl rfl ?_
        refine eg_ErrataRow_press K ef_ErrataRow_69 q12 d_ErrataRow_leastPurse_47 ?_
        obtain ⟨o17, e17, h⟩ := bo_e h
        refine j_eqq e17 ?_
        obtain ⟨q18, h⟩ := ck_e h
        refine eg_Press_rule K ef_ErrataRow_242 q18 d_ErrataRow_leastPurse_50 ?_
        rcases oc_e h with ⟨e19, h⟩ | ⟨o19, e19, h⟩
        · refine j_eqn e19 ?_
          refine j_bipush (v := 7) K d_ErrataRow_leastPurse_53 (by decide) ?_
          exact absurd h (by simp)
        · refine j_eqq e19 ?_
          refine j_bipush (v := 7) K d_ErrataRow_leastPurse_53 (by decide) ?_
          obtain ⟨q22, h⟩ := ck_e h
          obtain ⟨r21, κ21, e21, h⟩ := bd_e h
          refine ecallV_i K hN (c_Rule_asksFor_ok l D θ N o19 7 κ11 _ e21) eG_ErrataRow_304 eh_Rule_asksFor (by decide) (rmA_ok (by decide) (by decide)) rfl q22 (by decide) rfl (st := []) (Nat.le_of_ble_eq_true rfl) rfl d_ErrataRow_leastPurse_55 ⟨Nat.le_of_ble_eq_true rfl, Nat.le_of_ble_eq_true rfl⟩ ?_
          refine j_if_ne (tgt := 67) K d_ErrataRow_leastPurse_58 (by decide) (fun q => ?_) (fun q => ?_)
          · have h := if_f h q
            refine j_iconst (v := 0) K d_ErrataRow_leastPurse_67 (by decide) ?_
            refine j_istore_n (lv' := [(2, .int 0), (0, .ref this), (1, .int a1)]) K d_ErrataRow_leastPurse_68 rfl (by decide) rfl ?_
            refine j_sub [1, 2, 0] rfl ?_
            exact t_ErrataRow_leastPurse_69 K hN hr hlk N ρ N this a1 0 κ21 h
          · have h := if_t h q
            refine j_aload_n K 0 d_ErrataRow_leastPurse_61 rfl rfl ?_
            refine j_iload_n K 1 d_ErrataRow_leastPurse_62 rfl rfl ?_
            obtain ⟨q27, h⟩ := ck_e h
            obtain ⟨r26, κ26, e26, h⟩ := bd_e h
            refine ecallV_i K hN (c_ErrataRow_costOf_ok l D θ N this a1 κ21 _ e26) eG_ErrataRow_307 eh_ErrataRow_costOf (by decide) (rmA_ok (by decide) (by decide)) rfl q27 (by decide) rfl (st := []) (Nat.le_of_ble_eq_true rfl) rfl d_ErrataRow_leastPurse_63 ⟨Nat.le_of_ble_eq_true rfl, Nat.le_of_ble_eq_true rfl⟩ ?_
            exact eret_i K h hr hlk d_ErrataRow_leastPurse_66
    · have h := if_t h q
      refine j_iconst (v := (-1)) K d_ErrataRow_leastPurse_23 (by decide) ?_
      exact eret_i K h hr hlk d_ErrataRow_leastPurse_24
