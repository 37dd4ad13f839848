def p_Preconditions_checkIndex (N : Nat) (a1 : Int32) (a2 : Int32) (κ : Cz) : Option (Int32 × Cz) := if a1 < 0 then none else if a1 < a2 then some (a1, κ) else none
set_option maxHeartbeats 4000000 in
set_option maxRecDepth 100000 in
theorem c_Preconditions_checkIndex_ok (l : Launch) (D : va_G) (θ : Tc) (ad : Ad) (N : Nat) (a1 : Int32) (a2 : Int32) (κ : Cz) (ρ : Int32 × Cz) (h : p_Preconditions_checkIndex N a1 a2 κ = some ρ) : CSEi l D θ ad y_Preconditions_checkIndex c_Preconditions_checkIndex 3 (some .int) 1 [.int a1, .int a2, va_rf ad.2.2] κ ρ := by
  intro sz
  refine sm_met l [.int a1, .int a2, va_rf ad.2.2] (by decide +kernel) (by rcases ad with ⟨_, _, _ | _⟩ <;> exact Nat.le_of_ble_eq_true rfl) ?_
  intro p e s m args below meth c K hN hX hr hlk hnm hs
  generalize va_A (wE θ κ) sz = A at K hX ⊢
  have K : KE p s m args c c_Preconditions_checkIndex 3 "jdk/internal/util/Preconditions" y_Preconditions_checkIndex (some .int) D θ A := K
  show JE p l e (rmA 1 0 0) s m args below meth c D θ A 3 0 0 (QEi below args s D θ A 0 0 ρ) κ [(0, .int a1), (1, .int a2), (2, va_rf ad.2.2)] [] 0
  unfold p_Preconditions_checkIndex at h
  refine j_iload_n K 0 d_Preconditions_checkIndex_0 rfl rfl ?_
  refine j_if_lt (tgt := 9) K d_Preconditions_checkIndex_1 (by decide) (fun q => ?_) (fun q => ?_)
  · have h := if_t h q
    exact absurd h (by simp)
  · have h := if_f h q
    refine j_iload_n K 0 d_Preconditions_checkIndex_4 rfl rfl ?_
    refine j_iload_n K 1 d_Preconditions_checkIndex_5 rfl rfl ?_
    refine j_icmp_lt (tgt := 16) K d_Preconditions_checkIndex_6 (by decide) (fun q => ?_) (fun q => ?_)
    · have h := if_t h q
      refine j_iload_n K 0 d_Preconditions_checkIndex_16 rfl rfl ?_
      exact eret_i K h hr hlk d_Preconditions_checkIndex_17
    · have h := if_f h q
      exact absurd h (by simp)
def p_String_checkIndex (N : Nat) (a1 : Int32) (a2 : Int32) (κ : Cz) : Option (Cz) := bd (p_Preconditions_checkIndex N a1 a2 κ) (fun r1 κ1 => some κ1)
set_option maxHeartbeats 4000000 in
set_option maxRecDepth 100000 in
theorem c_String_checkIndex_ok (l : Launch) (D : va_G) (θ : Tc) (ad : Ad) (N : Nat) (a1 : Int32) (a2 : Int32) (κ : Cz) (ρ : Cz) (h : p_String_checkIndex N a1 a2 κ = some ρ) : CSEv l D θ ad y_String_checkIndex c_String_checkIndex 2 none 2 [.int a1, .int a2] κ ρ := by
  intro sz
  refine sm_met l [.int a1, .int a2] (by decide +kernel) (Nat.le_of_ble_eq_true rfl) ?_
  intro p e s m args below meth c K hN hX hr hlk hnm hs
  generalize va_A (wE θ κ) sz = A at K hX ⊢
  have K : KE p s m args c c_String_checkIndex 2 "java/lang/String" y_String_checkIndex none D θ A := K
  show JE p l e (rmA 2 0 0) s m args below meth c D θ A 2 0 0 (QEv below args s D θ A 0 0 ρ) κ [(0, .int a1), (1, .int a2)] [] 0
  unfold p_String_checkIndex at h
  refine j_iload_n K 0 d_String_checkIndex_0 rfl rfl ?_
  refine j_iload_n K 1 d_String_checkIndex_1 rfl rfl ?_
  refine s_fmt K hX ef_String_1053 d_String_checkIndex_2 ?_
  obtain ⟨r1, κ1, e1, h⟩ := bd_e h
  refine scallS_i K hN hX (c_Preconditions_checkIndex_ok l D θ ad N a1 a2 κ _ e1) eG_String_1059 eh_Preconditions_checkIndex (rmA_ok (by decide) (by decide)) rfl (st := []) (Nat.le_of_ble_eq_true rfl) rfl d_String_checkIndex_5 ⟨Nat.le_of_ble_eq_true rfl, Nat.le_of_ble_eq_true rfl⟩ ?_
  refine j_pop K d_String_checkIndex_8 rfl ?_
  exact eret_v K h hr hlk d_String_checkIndex_9
def p_String_coder (N : Nat) (this : Nat) (κ : Cz) : Option (Int32 × Cz) := if (1 : Int32) = 0 then some (1, κ) else ck (decide (this < 2)) (some (0, κ))
set_option maxHeartbeats 4000000 in
set_option maxRecDepth 100000 in
theorem c_String_coder_ok (l : Launch) (D : va_G) (θ : Tc) (ad : Ad) (N : Nat) (this : Nat) (κ : Cz) (ρ : Int32 × Cz) (h : p_String_coder N this κ = some ρ) : CSEi l D θ ad y_String_coder c_String_coder 1 (some .byte) 1 [.ref (ad.1 this)] κ ρ := by
  intro sz
  refine sm_met l [.ref (ad.1 this)] (by decide +kernel) (Nat.le_of_ble_eq_true rfl) ?_
  intro p e s m args below meth c K hN hX hr hlk hnm hs
  generalize va_A (wE θ κ) sz = A at K hX ⊢
  have K : KE p s m args c c_String_coder 1 "java/lang/String" y_String_coder (some .byte) D θ A := K
  show JE p l e (rmA 1 0 0) s m args below meth c D θ A 1 0 0 (QEi below args s D θ A 0 0 ρ) κ [(0, .ref (ad.1 this))] [] 0
  unfold p_String_coder at h
  refine s_compact K hX ef_String_38 d_String_coder_0 ?_
  refine j_if_eq (tgt := 13) K d_String_coder_3 (by decide) (fun q => ?_) (fun q => ?_)
  · have h := if_t h q
    refine j_iconst (v := 1) K d_String_coder_13 (by decide) ?_
    exact eret_b K h rfl hr hlk d_String_coder_14
  · have h := if_f h q
    refine j_aload_n K 0 d_String_coder_6 rfl rfl ?_
    obtain ⟨q1, h⟩ := ck_e h
    refine s_coder K hX (of_decide_eq_true q1) ef_String_15 d_String_coder_7 ?_
    refine j_goto (tgt := 14) K d_String_coder_10 (by decide) ?_
    exact eret_b K h rfl hr hlk d_String_coder_14
def p_String_isLatin1 (N : Nat) (this : Nat) (κ : Cz) : Option (Int32 × Cz) := if (1 : Int32) = 0 then some (0, κ) else ck (decide (this < 2)) (if (0 : Int32) = 0 then some (1, κ) else some (0, κ))
set_option maxHeartbeats 4000000 in
set_option maxRecDepth 100000 in
theorem c_String_isLatin1_ok (l : Launch) (D : va_G) (θ : Tc) (ad : Ad) (N : Nat) (this : Nat) (κ : Cz) (ρ : Int32 × Cz) (h : p_String_isLatin1 N this κ = some ρ) : CSEi l D θ ad y_String_isLatin1 c_String_isLatin1 1 (some .boolean) 1 [.ref (ad.1 this)] κ ρ := by
  intro sz
  refine sm_met l [.ref (ad.1 this)] (by decide +kernel) (Nat.le_of_ble_eq_true rfl) ?_
  intro p e s m args below meth c K hN hX hr hlk hnm hs
  generalize va_A (wE θ κ) sz = A at K hX ⊢
  have K : KE p s m args c c_String_isLatin1 1 "java/lang/String" y_String_isLatin1 (some .boolean) D θ A := K
  show JE p l e (rmA 1 0 0) s m args below meth c D θ A 1 0 0 (QEi below args s D θ A 0 0 ρ) κ [(0, .ref (ad.1 this))] [] 0
  unfold p_String_isLatin1 at h
  refine s_compact K hX ef_String_38 d_String_isLatin1_0 ?_
  refine j_if_eq (tgt := 17) K d_String_isLatin1_3 (by decide) (fun q => ?_) (fun q => ?_)
  · have h := if_t h q
    refine j_iconst (v := 0) K d_String_isLatin1_17 (by decide) ?_
    exact eret_z K h rfl hr hlk d_String_isLatin1_18
  · have h := if_f h q
    refine j_aload_n K 0 d_String_isLatin1_6 rfl rfl ?_
    obtain ⟨q1, h⟩ := ck_e h
    refine s_coder K hX (of_decide_eq_true q1) ef_String_15 d_String_isLatin1_7 ?_
    refine j_if_ne (tgt := 17) K d_String_isLatin1_10 (by decide) (fun q => ?_) (fun q => ?_)
    · have h := if_f h q
      refine j_iconst (v := 0) K d_String_isLatin1_17 (by decide) ?_
      exact eret_z K h rfl hr hlk d_String_isLatin1_18
    · have h := if_t h q
      refine j_iconst (v := 1) K d_String_isLatin1_13 (by decide) ?_
      refine j_goto (tgt := 18) K d_String_isLatin1_14 (by decide) ?_
      exact eret_z K h rfl hr hlk d_String_isLatin1_18
def p_String_length (N : Nat) (this : Nat) (κ : Cz) : Option (Int32 × Cz) := ck (decide (this < 2)) (bd (p_String_coder N this κ) (fun r2 κ2 => some ((nI (lenS.getD this 0)) >>> (r2 &&& 31), κ2)))
set_option maxHeartbeats 4000000 in
set_option maxRecDepth 100000 in
theorem c_String_length_ok (l : Launch) (D : va_G) (θ : Tc) (ad : Ad) (N : Nat) (this : Nat) (κ : Cz) (ρ : Int32 × Cz) (h : p_String_length N this κ = some ρ) : CSEi l D θ ad y_String_length c_String_length 1 (some .int) 2 [.ref (ad.1 this)] κ ρ := by
  intro sz
  refine sm_met l [.ref (ad.1 this)] (by decide +kernel) (Nat.le_of_ble_eq_true rfl) ?_
  intro p e s m args below meth c K hN hX hr hlk hnm hs
  generalize va_A (wE θ κ) sz = A at K hX ⊢
  have K : KE p s m args c c_String_length 1 "java/lang/String" y_String_length (some .int) D θ A := K
  show JE p l e (rmA 2 0 0) s m args below meth c D θ A 1 0 0 (QEi below args s D θ A 0 0 ρ) κ [(0, .ref (ad.1 this))] [] 0
  unfold p_String_length at h
  refine j_aload_n K 0 d_String_length_0 rfl rfl ?_
  obtain ⟨q1, h⟩ := ck_e h
  refine s_value K hX (of_decide_eq_true q1) ef_String_9 d_String_length_1 ?_
  refine s_alen K hX (of_decide_eq_true q1) d_String_length_4 ?_
  refine j_aload_n K 0 d_String_length_5 rfl rfl ?_
  obtain ⟨r2, κ2, e2, h⟩ := bd_e h
  refine scallT_i K hN hX (c_String_coder_ok l D θ ad N this κ _ e2) eG_String_335 eh_String_coder (rmA_ok (by decide) (by decide)) rfl (of_decide_eq_true q1) rfl (st := [.int (nI (lenS.getD this 0))]) (Nat.le_of_ble_eq_true rfl) rfl d_String_length_6 ⟨Nat.le_of_ble_eq_true rfl, Nat.le_of_ble_eq_true rfl⟩ ?_
  refine j_ishr K d_String_length_9 ?_
  exact eret_i K h hr hlk d_String_length_10
def p_StringLatin1_canEncode (N : Nat) (a1 : Int32) (κ : Cz) : Option (Int32 × Cz) := if a1 < 0 then some (0, κ) else if 255 < a1 then some (0, κ) else some (1, κ)
set_option maxHeartbeats 4000000 in
set_option maxRecDepth 100000 in
theorem c_StringLatin1_canEncode_ok (l : Launch) (D : va_G) (θ : Tc) (ad : Ad) (N : Nat) (a1 : Int32) (κ : Cz) (ρ : Int32 × Cz) (h : p_StringLatin1_canEncode N a1 κ = some ρ) : CSEi l D θ ad y_StringLatin1_canEncode c_StringLatin1_canEncode 1 (some .boolean) 1 [.int a1] κ ρ := by
  intro sz
  refine sm_met l [.int a1] (by decide +kernel) (Nat.le_of_ble_eq_true rfl) ?_
  intro p e s m args below meth c K hN hX hr hlk hnm hs
  generalize va_A (wE θ κ) sz = A at K hX ⊢
  have K : KE p s m args c c_StringLatin1_canEncode 1 "java/lang/StringLatin1" y_StringLatin1_canEncode (some .boolean) D θ A := K
  show JE p l e (rmA 1 0 0) s m args below meth c D θ A 1 0 0 (QEi below args s D θ A 0 0 ρ) κ [(0, .int a1)] [] 0
  unfold p_StringLatin1_canEncode at h
  refine j_iload_n K 0 d_StringLatin1_canEncode_0 rfl rfl ?_
  refine j_if_lt (tgt := 15) K d_StringLatin1_canEncode_1 (by decide) (fun q => ?_) (fun q => ?_)
  · have h := if_t h q
    refine j_iconst (v := 0) K d_StringLatin1_canEncode_15 (by decide) ?_
    exact eret_z K h rfl hr hlk d_StringLatin1_canEncode_16
  · have h := if_f h q
    refine j_iload_n K 0 d_StringLatin1_canEncode_4 rfl rfl ?_
    refine j_sipush (v := 255) K d_StringLatin1_canEncode_5 (by decide) ?_
    refine j_icmp_gt (tgt := 15) K d_StringLatin1_canEncode_8 (by decide) (fun q => ?_) (fun q => ?_)
    · have h := if_t h q
      refine j_iconst (v := 0) K d_StringLatin1_canEncode_15 (by decide) ?_
      exact eret_z K h rfl hr hlk d_StringLatin1_canEncode_16
    · have h := if_f h q
      refine j_iconst (v := 1) K d_StringLatin1_canEncode_11 (by decide) ?_
      refine j_goto (tgt := 16) K d_StringLatin1_canEncode_12 (by decide) ?_
      exact eret_z K h rfl hr hlk d_StringLatin1_canEncode_16
def p_StringLatin1_charAt (N : Nat) (a1 : Nat) (a2 : Int32) (κ : Cz) : Option (Int32 × Cz) := ck (decide (a1 < 2)) (bo (p_String_checkIndex N a2 (nI (lenS.getD a1 0)) κ) (fun κ2 => ck (inb a2 (lenS.getD a1 0)) (some (((((bytS.getD a1 []).getD a2.toNatClampNeg 0) &&& 255).toUInt32 % 65536).toInt32, κ2))))
set_option maxHeartbeats 4000000 in
set_option maxRecDepth 100000 in
theorem c_StringLatin1_charAt_ok (l : Launch) (D : va_G) (θ : Tc) (ad : Ad) (N : Nat) (a1 : Nat) (a2 : Int32) (κ : Cz) (ρ : Int32 × Cz) (h : p_StringLatin1_charAt N a1 a2 κ = some ρ) : CSEi l D θ ad y_StringLatin1_charAt c_StringLatin1_charAt 2 (some .char) 3 [.ref (ad.2.1 a1), .int a2] κ ρ := by
  intro sz
  refine sm_met l [.ref (ad.2.1 a1), .int a2] (by decide +kernel) (Nat.le_of_ble_eq_true rfl) ?_
  intro p e s m args below meth c K hN hX hr hlk hnm hs
  generalize va_A (wE θ κ) sz = A at K hX ⊢
  have K : KE p s m args c c_StringLatin1_charAt 2 "java/lang/StringLatin1" y_StringLatin1_charAt (some .char) D θ A := K
  show JE p l e (rmA 3 0 0) s m args below meth c D θ A 2 0 0 (QEi below args s D θ A 0 0 ρ) κ [(0, .ref (ad.2.1 a1)), (1, .int a2)] [] 0
  unfold p_StringLatin1_charAt at h
  refine j_iload_n K 1 d_StringLatin1_charAt_0 rfl rfl ?_
  refine j_aload_n K 0 d_StringLatin1_charAt_1 rfl rfl ?_
  obtain ⟨q1, h⟩ := ck_e h
  refine s_alen K hX (of_decide_eq_true q1) d_StringLatin1_charAt_2 ?_
  obtain ⟨κ2, e2, h⟩ := bo_e h
  refine scallS_v K hN hX (c_String_checkIndex_ok l D θ ad N a2 (nI (lenS.getD a1 0)) κ _ e2) eG_StringLatin1_9 eh_String_checkIndex (rmA_ok (by decide) (by decide)) rfl (st := []) (Nat.le_of_ble_eq_true rfl) rfl d_StringLatin1_charAt_3 ⟨Nat.le_of_ble_eq_true rfl, Nat.le_of_ble_eq_true rfl⟩ ?_
  refine j_aload_n K 0 d_StringLatin1_charAt_6 rfl rfl ?_
  refine j_iload_n K 1 d_StringLatin1_charAt_7 rfl rfl ?_
  obtain ⟨q3, h⟩ := ck_e h
  refine s_bald K hX (of_decide_eq_true q1) (inb_e q3) d_StringLatin1_charAt_8 ?_
  refine j_sipush (v := 255) K d_StringLatin1_charAt_9 (by decide) ?_
  refine j_iand K d_StringLatin1_charAt_12 ?_
  refine j_i2c K d_StringLatin1_charAt_13 ?_
  exact eret_c K h (pk_nc _) hr hlk d_StringLatin1_charAt_14
def b_StringLatin1_indexOfChar_7 (N : Nat) : Nat → Nat → Int32 → Int32 → Int32 → Cz → Option (Int32 × Cz)
  | 0, _, _, _, _, _ => none
  | n + 1, x0, x3, x4, x5, κ => if x3 ≤ x5 then some ((-1), κ) else ck (decide (x0 < 2)) (ck (inb x5 (lenS.getD x0 0)) (if (bytS.getD x0 []).getD x5.toNatClampNeg 0 = x4 then some (x5, κ) else lt (x5 + 1) (fun v4 => b_StringLatin1_indexOfChar_7 N n x0 x3 x4 v4 κ)))
set_option maxHeartbeats 4000000 in
set_option maxRecDepth 100000 in
theorem t_StringLatin1_indexOfChar_7 {p : Program} {l : Launch} {e : Env} {s : State} {m : MethodId} {args : Array Value} {below : List Frame} {meth : Method} {c : Code} {D : va_G} {θ : Tc} {A : Nat → Prop} {ad : Ad} (K : KE p s m args c c_StringLatin1_indexOfChar 6 "java/lang/StringLatin1" y_StringLatin1_indexOfChar (some .int) D θ A) (hN : NX s) (hX : SC ad A s s.heap) (hr : meth.sig.returnType = (some .int)) (hlk : meth.locks = false) (N : Nat) (ρ : Int32 × Cz) : ∀ (n : Nat) (x0 : Nat) (x3 : Int32) (x4 : Int32) (x5 : Int32) (κ : Cz), b_StringLatin1_indexOfChar_7 N n x0 x3 x4 x5 κ = some ρ → JE p l e (rmA 1 0 0) s m args below meth c D θ A 6 0 0 (QEi below args s D θ A 0 0 ρ) κ [(0, .ref (ad.2.1 x0)), (3, .int x3), (4, .int x4), (5, .int x5)] [] 7 := by
  intro n
  induction n with
  | zero =>
    intro x0 x3 x4 x5 κ h
    exact absurd h (by simp [b_StringLatin1_indexOfChar_7])
  | succ n ih =>
    intro x0 x3 x4 x5 κ h
    rw [b_StringLatin1_indexOfChar_7] at h
    refine j_iload K 3 d_StringLatin1_indexOfChar_7 rfl ?_
    refine j_iload_n K 1 d_StringLatin1_indexOfChar_9 rfl rfl ?_
    refine j_icmp_ge (tgt := 31) K d_StringLatin1_indexOfChar_10 (by decide) (fun q => ?_) (fun q => ?_)
    · have h := if_t h q
      refine j_iconst (v := (-1)) K d_StringLatin1_indexOfChar_31 (by decide) ?_
      exact eret_i K h hr hlk d_StringLatin1_indexOfChar_32
    · have h := if_f h q
      refine j_aload_n K 0 d_StringLatin1_indexOfChar_13 rfl rfl ?_
      refine j_iload K 3 d_StringLatin1_indexOfChar_14 rfl ?_
      obtain ⟨q2, h⟩ := ck_e h
      obtain ⟨q3, h⟩ := ck_e h
      refine s_bald K hX (of_decide_eq_true q2) (inb_e q3) d_StringLatin1_indexOfChar_16 ?_
      refine j_iload K 2 d_StringLatin1_indexOfChar_17 rfl ?_
      refine j_icmp_ne (tgt := 25) K d_StringLatin1_indexOfChar_19 (by decide) (fun q => ?_) (fun q => ?_)
      · have h := if_f h q
        obtain ⟨v4, e4, h⟩ := lt_e h
        refine j_iinc (k := 3) (v := v4) (lv' := [(5, .int v4), (0, .ref (ad.2.1 x0)), (3, .int x3), (4, .int x4)]) K d_StringLatin1_indexOfChar_25 rfl (by rw [e4]; rfl) (by decide) rfl ?_
        refine j_goto (tgt := 7) K d_StringLatin1_indexOfChar_28 (by decide) ?_
        refine j_sub [1, 2, 3, 0] rfl ?_
        exact ih x0 x3 x4 v4 κ h
      · have h := if_t h q
        refine j_iload K 3 d_StringLatin1_indexOfChar_22 rfl ?_
        exact eret_i K h hr hlk d_StringLatin1_indexOfChar_24
def p_StringLatin1_indexOfChar (N : Nat) (a1 : Nat) (a2 : Int32) (a3 : Int32) (a4 : Int32) (κ : Cz) : Option (Int32 × Cz) := lt (a2.toInt8.toInt32) (fun v1 => b_StringLatin1_indexOfChar_7 N N a1 a4 v1 a3 κ)
set_option maxHeartbeats 4000000 in
set_option maxRecDepth 100000 in
theorem c_StringLatin1_indexOfChar_ok (l : Launch) (D : va_G) (θ : Tc) (ad : Ad) (N : Nat) (a1 : Nat) (a2 : Int32) (a3 : Int32) (a4 : Int32) (κ : Cz) (ρ : Int32 × Cz) (h : p_StringLatin1_indexOfChar N a1 a2 a3 a4 κ = some ρ) : CSEi l D θ ad y_StringLatin1_indexOfChar c_StringLatin1_indexOfChar 6 (some .int) 1 [.ref (ad.2.1 a1), .int a2, .int a3, .int a4] κ ρ := by
  intro sz
  refine sm_met l [.ref (ad.2.1 a1), .int a2, .int a3, .int a4] (by decide +kernel) (Nat.le_of_ble_eq_true rfl) ?_
  intro p e s m args below meth c K hN hX hr hlk hnm hs
  generalize va_A (wE θ κ) sz = A at K hX ⊢
  have K : KE p s m args c c_StringLatin1_indexOfChar 6 "java/lang/StringLatin1" y_StringLatin1_indexOfChar (some .int) D θ A := K
  show JE p l e (rmA 1 0 0) s m args below meth c D θ A 6 0 0 (QEi below args s D θ A 0 0 ρ) κ [(0, .ref (ad.2.1 a1)), (1, .int a2), (2, .int a3), (3, .int a4)] [] 0
  unfold p_StringLatin1_indexOfChar at h
  refine j_iload_n K 1 d_StringLatin1_indexOfChar_0 rfl rfl ?_
  refine j_i2b K d_StringLatin1_indexOfChar_1 ?_
  obtain ⟨v1, e1, h⟩ := lt_e h
  refine j_eqi e1 ?_
  refine j_istore (lv' := [(4, .int v1), (0, .ref (ad.2.1 a1)), (1, .int a2), (2, .int a3), (3, .int a4)]) K d_StringLatin1_indexOfChar_2 (by decide) rfl ?_
  refine j_iload_n K 3 d_StringLatin1_indexOfChar_4 rfl rfl ?_
  refine j_istore (lv' := [(5, .int a3), (4, .int v1), (0, .ref (ad.2.1 a1)), (1, .int a2), (2, .int a3), (3, .int a4)]) K d_StringLatin1_indexOfChar_5 (by decide) rfl ?_
  refine j_sub [2, 5, 1, 0] rfl ?_
  exact t_StringLatin1_indexOfChar_7 K hN hX hr hlk N ρ N a1 a4 v1 a3 κ h
def p_StringLatin1_indexOf (N : Nat) (a1 : Nat) (a2 : Int32) (a3 : Int32) (a4 : Int32) (κ : Cz) : Option (Int32 × Cz) := bd (p_StringLatin1_canEncode N a2 κ) (fun r1 κ1 => if r1 = 0 then some ((-1), κ1) else lt (if a3 < 0 then 0 else a3) (fun v2 => ck (decide (a1 < 2)) (lt (if (nI (lenS.getD a1 0)) < a4 then (nI (lenS.getD a1 0)) else a4) (fun v4 => if v2 < v4 then bd (p_StringLatin1_indexOfChar N a1 a2 v2 v4 κ1) (fun r5 κ5 => some (r5, κ5)) else some ((-1), κ1)))))
set_option maxHeartbeats 4000000 in
set_option maxRecDepth 100000 in
theorem c_StringLatin1_indexOf_ok (l : Launch) (D : va_G) (θ : Tc) (ad : Ad) (N : Nat) (a1 : Nat) (a2 : Int32) (a3 : Int32) (a4 : Int32) (κ : Cz) (ρ : Int32 × Cz) (h : p_StringLatin1_indexOf N a1 a2 a3 a4 κ = some ρ) : CSEi l D θ ad y_StringLatin1_indexOf c_StringLatin1_indexOf 4 (some .int) 2 [.ref (ad.2.1 a1), .int a2, .int a3, .int a4] κ ρ := by
  intro sz
  refine sm_met l [.ref (ad.2.1 a1), .int a2, .int a3, .int a4] (by decide +kernel) (Nat.le_of_ble_eq_true rfl) ?_
  intro p e s m args below meth c K hN hX hr hlk hnm hs
  generalize va_A (wE θ κ) sz = A at K hX ⊢
  have K : KE p s m args c c_StringLatin1_indexOf 4 "java/lang/StringLatin1" y_StringLatin1_indexOf (some .int) D θ A := K
  show JE p l e (rmA 2 0 0) s m args below meth c D θ A 4 0 0 (QEi below args s D θ A 0 0 ρ) κ [(0, .ref (ad.2.1 a1)), (1, .int a2), (2, .int a3), (3, .int a4)] [] 0
  unfold p_StringLatin1_indexOf at h
  refine j_iload_n K 1 d_StringLatin1_indexOf_0 rfl rfl ?_
  obtain ⟨r1, κ1, e1, h⟩ := bd_e h
  refine scallS_i K hN hX (c_StringLatin1_canEncode_ok l D θ ad N a2 κ _ e1) eG_StringLatin1_88 eh_StringLatin1_canEncode (rmA_ok (by decide) (by decide)) rfl (st := []) (Nat.le_of_ble_eq_true rfl) rfl d_StringLatin1_indexOf_1 ⟨Nat.le_of_ble_eq_true rfl, Nat.le_of_ble_eq_true rfl⟩ ?_
  refine j_if_ne (tgt := 9) K d_StringLatin1_indexOf_4 (by decide) (fun q => ?_) (fun q => ?_)
  · have h := if_f h q
    refine j_iload_n K 2 d_StringLatin1_indexOf_9 rfl rfl ?_
    refine j_iconst (v := 0) K d_StringLatin1_indexOf_10 (by decide) ?_
    refine e_mmax K el_StringLatin1_92 es_mmax ei_Math ec_mmax (by decide) (Nat.le_of_ble_eq_true rfl) (Nat.le_of_ble_eq_true rfl) (Nat.le_of_ble_eq_true rfl) d_StringLatin1_indexOf_11 ?_
    obtain ⟨v2, e2, h⟩ := lt_e h
    refine j_eqi e2 ?_
    refine j_istore_n (lv' := [(2, .int v2), (0, .ref (ad.2.1 a1)), (1, .int a2), (3, .int a4)]) K d_StringLatin1_indexOf_14 rfl (by decide) rfl ?_
    refine j_iload_n K 3 d_StringLatin1_indexOf_15 rfl rfl ?_
    refine j_aload_n K 1 d_StringLatin1_indexOf_16 rfl rfl ?_
    obtain ⟨q3, h⟩ := ck_e h
    refine s_alen K hX (of_decide_eq_true q3) d_StringLatin1_indexOf_17 ?_
    refine e_mmin K el_StringLatin1_38 es_mmin ei_Math ec_mmin (by decide) (Nat.le_of_ble_eq_true rfl) (Nat.le_of_ble_eq_true rfl) (Nat.le_of_ble_eq_true rfl) d_StringLatin1_indexOf_18 ?_
    obtain ⟨v4, e4, h⟩ := lt_e h
    refine j_eqi e4 ?_
    refine j_istore_n (lv' := [(3, .int v4), (2, .int v2), (0, .ref (ad.2.1 a1)), (1, .int a2)]) K d_StringLatin1_indexOf_21 rfl (by decide) rfl ?_
    refine j_iload_n K 1 d_StringLatin1_indexOf_22 rfl rfl ?_
    refine j_iload_n K 0 d_StringLatin1_indexOf_23 rfl rfl ?_
    refine j_icmp_lt (tgt := 29) K d_StringLatin1_indexOf_24 (by decide) (fun q => ?_) (fun q => ?_)
    · have h := if_t h q
      refine j_aload_n K 2 d_StringLatin1_indexOf_29 rfl rfl ?_
      refine j_iload_n K 3 d_StringLatin1_indexOf_30 rfl rfl ?_
      refine j_iload_n K 1 d_StringLatin1_indexOf_31 rfl rfl ?_
      refine j_iload_n K 0 d_StringLatin1_indexOf_32 rfl rfl ?_
      obtain ⟨r5, κ5, e5, h⟩ := bd_e h
      refine scallS_i K hN hX (c_StringLatin1_indexOfChar_ok l D θ ad N a1 a2 v2 v4 κ1 _ e5) eG_StringLatin1_95 eh_StringLatin1_indexOfChar (rmA_ok (by decide) (by decide)) rfl (st := []) (Nat.le_of_ble_eq_true rfl) rfl d_StringLatin1_indexOf_33 ⟨Nat.le_of_ble_eq_true rfl, Nat.le_of_ble_eq_true rfl⟩ ?_
      exact eret_i K h hr hlk d_StringLatin1_indexOf_36
    · have h := if_f h q
      refine j_iconst (v := (-1)) K d_StringLatin1_indexOf_27 (by decide) ?_
      exact eret_i K h hr hlk d_StringLatin1_indexOf_28
  · have h := if_t h q
    refine j_iconst (v := (-1)) K d_StringLatin1_indexOf_7 (by decide) ?_
    exact eret_i K h hr hlk d_StringLatin1_indexOf_8
def p_String_charAt (N : Nat) (this : Nat) (a1 : Int32) (κ : Cz) : Option (Int32 × Cz) := ck (decide (this < 2)) (bd (p_String_isLatin1 N this κ) (fun r1 κ1 => if r1 = 0 then none else bd (p_StringLatin1_charAt N this a1 κ1) (fun r3 κ3 => ck (ich r3) (some (r3, κ3)))))
set_option maxHeartbeats 4000000 in
set_option maxRecDepth 100000 in
theorem c_String_charAt_ok (l : Launch) (D : va_G) (θ : Tc) (ad : Ad) (N : Nat) (this : Nat) (a1 : Int32) (κ : Cz) (ρ : Int32 × Cz) (h : p_String_charAt N this a1 κ = some ρ) : CSEi l D θ ad y_String_charAt c_String_charAt 2 (some .char) 4 [.ref (ad.1 this), .int a1] κ ρ := by
  intro sz
  refine sm_met l [.ref (ad.1 this), .int a1] (by decide +kernel) (Nat.le_of_ble_eq_true rfl) ?_
  intro p e s m args below meth c K hN hX hr hlk hnm hs
  generalize va_A (wE θ κ) sz = A at K hX ⊢
  have K : KE p s m args c c_String_charAt 2 "java/lang/String" y_String_charAt (some .char) D θ A := K
  show JE p l e (rmA 4 0 0) s m args below meth c D θ A 2 0 0 (QEi below args s D θ A 0 0 ρ) κ [(0, .ref (ad.1 this)), (1, .int a1)] [] 0
  unfold p_String_charAt at h
  refine j_aload_n K 0 d_String_charAt_0 rfl rfl ?_
  obtain ⟨q2, h⟩ := ck_e h
  obtain ⟨r1, κ1, e1, h⟩ := bd_e h
  refine scallT_i K hN hX (c_String_isLatin1_ok l D θ ad N this κ _ e1) eG_String_492 eh_String_isLatin1 (rmA_ok (by decide) (by decide)) rfl (of_decide_eq_true q2) rfl (st := []) (Nat.le_of_ble_eq_true rfl) rfl d_String_charAt_1 ⟨Nat.le_of_ble_eq_true rfl, Nat.le_of_ble_eq_true rfl⟩ ?_
  refine j_if_eq (tgt := 16) K d_String_charAt_4 (by decide) (fun q => ?_) (fun q => ?_)
  · have h := if_t h q
    refine j_aload_n K 0 d_String_charAt_16 rfl rfl ?_
    refine s_value K hX (of_decide_eq_true q2) ef_String_9 d_String_charAt_17 ?_
    refine j_iload_n K 1 d_String_charAt_20 rfl rfl ?_
    exact absurd h (by simp)
  · have h := if_f h q
    refine j_aload_n K 0 d_String_charAt_7 rfl rfl ?_
    refine s_value K hX (of_decide_eq_true q2) ef_String_9 d_String_charAt_8 ?_
    refine j_iload_n K 1 d_String_charAt_11 rfl rfl ?_
    obtain ⟨r3, κ3, e3, h⟩ := bd_e h
    refine scallS_i K hN hX (c_StringLatin1_charAt_ok l D θ ad N this a1 κ1 _ e3) eG_String_495 eh_StringLatin1_charAt (rmA_ok (by decide) (by decide)) rfl (st := []) (Nat.le_of_ble_eq_true rfl) rfl d_String_charAt_12 ⟨Nat.le_of_ble_eq_true rfl, Nat.le_of_ble_eq_true rfl⟩ ?_
    obtain ⟨q4, h⟩ := ck_e h
    exact eret_c K h (ich_e q4) hr hlk d_String_charAt_15
def p_String_indexOf2 (N : Nat) (this : Nat) (a1 : Int32) (a2 : Int32) (κ : Cz) : Option (Int32 × Cz) := ck (decide (this < 2)) (bd (p_String_isLatin1 N this κ) (fun r1 κ1 => if r1 = 0 then bd (p_String_length N this κ1) (fun r3 κ3 => none) else bd (p_String_length N this κ1) (fun r4 κ4 => bd (p_StringLatin1_indexOf N this a1 a2 r4 κ4) (fun r5 κ5 => some (r5, κ5)))))
set_option maxHeartbeats 4000000 in
set_option maxRecDepth 100000 in
theorem c_String_indexOf2_ok (l : Launch) (D : va_G) (θ : Tc) (ad : Ad) (N : Nat) (this : Nat) (a1 : Int32) (a2 : Int32) (κ : Cz) (ρ : Int32 × Cz) (h : p_String_indexOf2 N this a1 a2 κ = some ρ) : CSEi l D θ ad y_String_indexOf2 c_String_indexOf2 3 (some .int) 3 [.ref (ad.1 this), .int a1, .int a2] κ ρ := by
  intro sz
  refine sm_met l [.ref (ad.1 this), .int a1, .int a2] (by decide +kernel) (Nat.le_of_ble_eq_true rfl) ?_
  intro p e s m args below meth c K hN hX hr hlk hnm hs
  generalize va_A (wE θ κ) sz = A at K hX ⊢
  have K : KE p s m args c c_String_indexOf2 3 "java/lang/String" y_String_indexOf2 (some .int) D θ A := K
  show JE p l e (rmA 3 0 0) s m args below meth c D θ A 3 0 0 (QEi below args s D θ A 0 0 ρ) κ [(0, .ref (ad.1 this)), (1, .int a1), (2, .int a2)] [] 0
  unfold p_String_indexOf2 at h
  refine j_aload_n K 0 d_String_indexOf2_0 rfl rfl ?_
  obtain ⟨q2, h⟩ := ck_e h
  obtain ⟨r1, κ1, e1, h⟩ := bd_e h
  refine scallT_i K hN hX (c_String_isLatin1_ok l D θ ad N this κ _ e1) eG_String_492 eh_String_isLatin1 (rmA_ok (by decide) (by decide)) rfl (of_decide_eq_true q2) rfl (st := []) (Nat.le_of_ble_eq_true rfl) rfl d_String_indexOf2_1 ⟨Nat.le_of_ble_eq_true rfl, Nat.le_of_ble_eq_true rfl⟩ ?_
  refine j_if_eq (tgt := 23) K d_String_indexOf2_4 (by decide) (fun q => ?_) (fun q => ?_)
  · have h := if_t h q
    refine j_aload_n K 0 d_String_indexOf2_23 rfl rfl ?_
    refine s_value K hX (of_decide_eq_true q2) ef_String_9 d_String_indexOf2_24 ?_
    refine j_iload_n K 1 d_String_indexOf2_27 rfl rfl ?_
    refine j_iload_n K 2 d_String_indexOf2_28 rfl rfl ?_
    refine j_aload_n K 0 d_String_indexOf2_29 rfl rfl ?_
    obtain ⟨r3, κ3, e3, h⟩ := bd_e h
    refine scallT_i K hN hX (c_String_length_ok l D θ ad N this κ1 _ e3) eG_String_505 eh_String_length (rmA_ok (by decide) (by decide)) rfl (of_decide_eq_true q2) rfl (st := [.int a2, .int a1, .ref (ad.2.1 this)]) (Nat.le_of_ble_eq_true rfl) rfl d_String_indexOf2_30 ⟨Nat.le_of_ble_eq_true rfl, Nat.le_of_ble_eq_true rfl⟩ ?_
    exact absurd h (by simp)
  · have h := if_f h q
    refine j_aload_n K 0 d_String_indexOf2_7 rfl rfl ?_
    refine s_value K hX (of_decide_eq_true q2) ef_String_9 d_String_indexOf2_8 ?_
    refine j_iload_n K 1 d_String_indexOf2_11 rfl rfl ?_
    refine j_iload_n K 2 d_String_indexOf2_12 rfl rfl ?_
    refine j_aload_n K 0 d_String_indexOf2_13 rfl rfl ?_
    obtain ⟨r4, κ4, e4, h⟩ := bd_e h
    refine scallT_i K hN hX (c_String_length_ok l D θ ad N this κ1 _ e4) eG_String_505 eh_String_length (rmA_ok (by decide) (by decide)) rfl (of_decide_eq_true q2) rfl (st := [.int a2, .int a1, .ref (ad.2.1 this)]) (Nat.le_of_ble_eq_true rfl) rfl d_String_indexOf2_14 ⟨Nat.le_of_ble_eq_true rfl, Nat.le_of_ble_eq_true rfl⟩ ?_
    obtain ⟨r5, κ5, e5, h⟩ := bd_e h
    refine scallS_i K hN hX (c_StringLatin1_indexOf_ok l D θ ad N this a1 a2 r4 κ4 _ e5) eG_String_637 eh_StringLatin1_indexOf (rmA_ok (by decide) (by decide)) rfl (st := []) (Nat.le_of_ble_eq_true rfl) rfl d_String_indexOf2_17 ⟨Nat.le_of_ble_eq_true rfl, Nat.le_of_ble_eq_true rfl⟩ ?_
    refine j_goto (tgt := 36) K d_String_indexOf2_20 (by decide) ?_
    exact eret_i K h hr hlk d_String_indexOf2_36
def p_String_indexOf1 (N : Nat) (this : Nat) (a1 : Int32) (κ : Cz) : Option (Int32 × Cz) := ck (decide (this < 2)) (bd (p_String_indexOf2 N this a1 0 κ) (fun r1 κ1 => some (r1, κ1)))
set_option maxHeartbeats 4000000 in
set_option maxRecDepth 100000 in
theorem c_String_indexOf1_ok (l : Launch) (D : va_G) (θ : Tc) (ad : Ad) (N : Nat) (this : Nat) (a1 : Int32) (κ : Cz) (ρ : Int32 × Cz) (h : p_String_indexOf1 N this a1 κ = some ρ) : CSEi l D θ ad y_String_indexOf1 c_String_indexOf1 2 (some .int) 4 [.ref (ad.1 this), .int a1] κ ρ := by
  intro sz
  refine sm_met l [.ref (ad.1 this), .int a1] (by decide +kernel) (Nat.le_of_ble_eq_true rfl) ?_
  intro p e s m args below meth c K hN hX hr hlk hnm hs
  generalize va_A (wE θ κ) sz = A at K hX ⊢
  have K : KE p s m args c c_String_indexOf1 2 "java/lang/String" y_String_indexOf1 (some .int) D θ A := K
  show JE p l e (rmA 4 0 0) s m args below meth c D θ A 2 0 0 (QEi below args s D θ A 0 0 ρ) κ [(0, .ref (ad.1 this)), (1, .int a1)] [] 0
  unfold p_String_indexOf1 at h
  refine j_aload_n K 0 d_String_indexOf1_0 rfl rfl ?_
  refine j_iload_n K 1 d_String_indexOf1_1 rfl rfl ?_
  refine j_iconst (v := 0) K d_String_indexOf1_2 (by decide) ?_
  obtain ⟨q2, h⟩ := ck_e h
  obtain ⟨r1, κ1, e1, h⟩ := bd_e h
  refine scallT_i K hN hX (c_String_indexOf2_ok l D θ ad N this a1 0 κ _ e1) eG_String_633 eh_String_indexOf2 (rmA_ok (by decide) (by decide)) rfl (of_decide_eq_true q2) rfl (st := []) (Nat.le_of_ble_eq_true rfl) rfl d_String_indexOf1_3 ⟨Nat.le_of_ble_eq_true rfl, Nat.le_of_ble_eq_true rfl⟩ ?_
  exact eret_i K h hr hlk d_String_indexOf1_6
def b_Tokens_isSpelt_3 (N : Nat) : Nat → Nat → Int32 → Int32 → Int32 → Int32 → Cz → Option (Int32 × Cz)
  | 0, _, _, _, _, _, _ => none
  | n + 1, x0, x1, x2, x3, x4, κ => if x3 ≤ x4 then some (1, κ) else lt ((x1 + x4) - x2) (fun v1 => ck (isK κ x0 20) (ck (inb v1 (ln κ x0)) (bd (p_String_charAt N 0 x4 κ) (fun r4 κ4 => if (ai κ x0 v1.toNatClampNeg) = r4 then lt (x4 + 1) (fun v5 => b_Tokens_isSpelt_3 N n x0 x1 x2 x3 v5 κ4) else some (0, κ4)))))
set_option maxHeartbeats 4000000 in
set_option maxRecDepth 100000 in
theorem t_Tokens_isSpelt_3 {p : Program} {l : Launch} {e : Env} {s : State} {m : MethodId} {args : Array Value} {below : List Frame} {meth : Method} {c : Code} {D : va_G} {θ : Tc} {A : Nat → Prop} {ad : Ad} (K : KE p s m args c c_Tokens_isSpelt 5 "ErrataRow$Tokens" y_Tokens_isSpelt (some .boolean) D θ A) (hN : NX s) (hX : SC ad A s s.heap) (hr : meth.sig.returnType = (some .boolean)) (hlk : meth.locks = false) (N : Nat) (ρ : Int32 × Cz) : ∀ (n : Nat) (x0 : Nat) (x1 : Int32) (x2 : Int32) (x3 : Int32) (x4 : Int32) (κ : Cz), b_Tokens_isSpelt_3 N n x0 x1 x2 x3 x4 κ = some ρ → JE p l e (rmA 5 0 0) s m args below meth c D θ A 5 0 0 (QEi below args s D θ A 0 0 ρ) κ [(0, .ref x0), (1, .int x1), (2, .int x2), (3, .int x3), (4, .int x4)] [] 3 := by
  intro n
  induction n with
  | zero =>
    intro x0 x1 x2 x3 x4 κ h
    exact absurd h (by simp [b_Tokens_isSpelt_3])
  | succ n ih =>
    intro x0 x1 x2 x3 x4 κ h
    rw [b_Tokens_isSpelt_3] at h
    refine j_iload K 4 d_Tokens_isSpelt_3 rfl ?_
    refine j_iload_n K 3 d_Tokens_isSpelt_5 rfl rfl ?_
    refine j_icmp_ge (tgt := 35) K d_Tokens_isSpelt_6 (by decide) (fun q => ?_) (fun q => ?_)
    · have h := if_t h q
      refine j_iconst (v := 1) K d_Tokens_isSpelt_35 (by decide) ?_
      exact eret_z K h rfl hr hlk d_Tokens_isSpelt_36
    · have h := if_f h q
      refine j_aload_n K 0 d_Tokens_isSpelt_9 rfl rfl ?_
      refine j_iload_n K 1 d_Tokens_isSpelt_10 rfl rfl ?_
      refine j_iload K 4 d_Tokens_isSpelt_11 rfl ?_
      refine j_iadd K d_Tokens_isSpelt_13 ?_
      refine j_iload_n K 2 d_Tokens_isSpelt_14 rfl rfl ?_
      refine j_isub K d_Tokens_isSpelt_15 ?_
      obtain ⟨v1, e1, h⟩ := lt_e h
      refine j_eqi e1 ?_
      obtain ⟨q2, h⟩ := ck_e h
      obtain ⟨q3, h⟩ := ck_e h
      refine e_iald K q2 (inb_e q3) d_Tokens_isSpelt_16 ?_
      refine s_ldc0 K hX d_Tokens_isSpelt_17 ?_
      refine j_iload K 4 d_Tokens_isSpelt_19 rfl ?_
      obtain ⟨r4, κ4, e4, h⟩ := bd_e h
      refine scallT_i K hN hX (c_String_charAt_ok l D θ ad N 0 x4 κ _ e4) eG_Tokens_84 eh_String_charAt (rmA_ok (by decide) (by decide)) rfl (by decide) rfl (st := [.int (ai κ x0 v1.toNatClampNeg)]) (Nat.le_of_ble_eq_true rfl) rfl d_Tokens_isSpelt_21 ⟨Nat.le_of_ble_eq_true rfl, Nat.le_of_ble_eq_true rfl⟩ ?_
      refine j_icmp_eq (tgt := 29) K d_Tokens_isSpelt_24 (by decide) (fun q => ?_) (fun q => ?_)
      · have h := if_t h q
        obtain ⟨v5, e5, h⟩ := lt_e h
        refine j_iinc (k := 4) (v := v5) (lv' := [(4, .int v5), (0, .ref x0), (1, .int x1), (2, .int x2), (3, .int x3)]) K d_Tokens_isSpelt_29 rfl (by rw [e5]; rfl) (by decide) rfl ?_
        refine j_goto (tgt := 3) K d_Tokens_isSpelt_32 (by decide) ?_
        refine j_sub [1, 2, 3, 4, 0] rfl ?_
        exact ih x0 x1 x2 x3 v5 κ4 h
      · have h := if_f h q
        refine j_iconst (v := 0) K d_Tokens_isSpelt_27 (by decide) ?_
        exact eret_z K h rfl hr hlk d_Tokens_isSpelt_28
def p_Tokens_isSpelt (N : Nat) (a1 : Nat) (a2 : Int32) (a3 : Int32) (a4 : Int32) (κ : Cz) : Option (Int32 × Cz) := b_Tokens_isSpelt_3 N N a1 a2 a3 a4 a3 κ
set_option maxHeartbeats 4000000 in
set_option maxRecDepth 100000 in
theorem c_Tokens_isSpelt_ok (l : Launch) (D : va_G) (θ : Tc) (ad : Ad) (N : Nat) (a1 : Nat) (a2 : Int32) (a3 : Int32) (a4 : Int32) (κ : Cz) (ρ : Int32 × Cz) (h : p_Tokens_isSpelt N a1 a2 a3 a4 κ = some ρ) : CSEi l D θ ad y_Tokens_isSpelt c_Tokens_isSpelt 5 (some .boolean) 5 [.ref a1, .int a2, .int a3, .int a4] κ ρ := by
  intro sz
  refine sm_met l [.ref a1, .int a2, .int a3, .int a4] (by decide +kernel) (Nat.le_of_ble_eq_true rfl) ?_
  intro p e s m args below meth c K hN hX hr hlk hnm hs
  generalize va_A (wE θ κ) sz = A at K hX ⊢
  have K : KE p s m args c c_Tokens_isSpelt 5 "ErrataRow$Tokens" y_Tokens_isSpelt (some .boolean) D θ A := K
  show JE p l e (rmA 5 0 0) s m args below meth c D θ A 5 0 0 (QEi below args s D θ A 0 0 ρ) κ [(0, .ref a1), (1, .int a2), (2, .int a3), (3, .int a4)] [] 0
  unfold p_Tokens_isSpelt at h
  refine j_iload_n K 2 d_Tokens_isSpelt_0 rfl rfl ?_
  refine j_istore (lv' := [(4, .int a3), (0, .ref a1), (1, .int a2), (2, .int a3), (3, .int a4)]) K d_Tokens_isSpelt_1 (by decide) rfl ?_
  refine j_sub [1, 2, 3, 4, 0] rfl ?_
  exact t_Tokens_isSpelt_3 K hN hX hr hlk N ρ N a1 a2 a3 a4 a3 κ h
def b_Tokens_wordOf_8 (N : Nat) : Nat → Nat → Int32 → Int32 → Int32 → Int32 → Int32 → Cz → Option (Int32 × Cz)
  | 0, _, _, _, _, _, _, _ => none
  | n + 1, x0, x1, x2, x3, x4, x5, κ => bd (p_String_length N 0 κ) (fun r1 κ1 => if r1 ≤ x5 then some ((-1), κ1) else bd (p_String_charAt N 0 x5 κ1) (fun r2 κ2 => if r2 = 32 then if (x5 - x4) = (x2 - x1) then bd (p_Tokens_isSpelt N x0 x1 x4 x5 κ2) (fun r7 κ7 => if r7 = 0 then lt (x3 + 1) (fun v8 => lt (x5 + 1) (fun v9 => lt (x5 + 1) (fun v10 => b_Tokens_wordOf_8 N n x0 x1 x2 v8 v9 v10 κ7))) else some (x3, κ7)) else lt (x3 + 1) (fun v4 => lt (x5 + 1) (fun v5 => lt (x5 + 1) (fun v6 => b_Tokens_wordOf_8 N n x0 x1 x2 v4 v5 v6 κ2))) else lt (x5 + 1) (fun v3 => b_Tokens_wordOf_8 N n x0 x1 x2 x3 x4 v3 κ2)))
set_option maxHeartbeats 4000000 in
set_option maxRecDepth 100000 in
theorem t_Tokens_wordOf_8 {p : Program} {l : Launch} {e : Env} {s : State} {m : MethodId} {args : Array Value} {below : List Frame} {meth : Method} {c : Code} {D : va_G} {θ : Tc} {A : Nat → Prop} {ad : Ad} (K : KE p s m args c c_Tokens_wordOf 6 "ErrataRow$Tokens" y_Tokens_wordOf (some .int) D θ A) (hN : NX s) (hX : SC ad A s s.heap) (hr : meth.sig.returnType = (some .int)) (hlk : meth.locks = false) (N : Nat) (ρ : Int32 × Cz) : ∀ (n : Nat) (x0 : Nat) (x1 : Int32) (x2 : Int32) (x3 : Int32) (x4 : Int32) (x5 : Int32) (κ : Cz), b_Tokens_wordOf_8 N n x0 x1 x2 x3 x4 x5 κ = some ρ → JE p l e (rmA 6 0 0) s m args below meth c D θ A 6 0 0 (QEi below args s D θ A 0 0 ρ) κ [(0, .ref x0), (1, .int x1), (2, .int x2), (3, .int x3), (4, .int x4), (5, .int x5)] [] 8 := by
  intro n
  induction n with
  | zero =>
    intro x0 x1 x2 x3 x4 x5 κ h
    exact absurd h (by simp [b_Tokens_wordOf_8])
  | succ n ih =>
    intro x0 x1 x2 x3 x4 x5 κ h
    rw [b_Tokens_wordOf_8] at h
    refine j_iload K 5 d_Tokens_wordOf_8 rfl ?_
    refine s_ldc0 K hX d_Tokens_wordOf_10 ?_
    obtain ⟨r1, κ1, e1, h⟩ := bd_e h
    refine scallT_i K hN hX (c_String_length_ok l D θ ad N 0 κ _ e1) eG_Tokens_80 eh_String_length (rmA_ok (by decide) (by decide)) rfl (by decide) rfl (st := [.int x5]) (Nat.le_of_ble_eq_true rfl) rfl d_Tokens_wordOf_12 ⟨Nat.le_of_ble_eq_true rfl, Nat.le_of_ble_eq_true rfl⟩ ?_
    refine j_icmp_ge (tgt := 70) K d_Tokens_wordOf_15 (by decide) (fun q => ?_) (fun q => ?_)
    · have h := if_t h q
      refine j_iconst (v := (-1)) K d_Tokens_wordOf_70 (by decide) ?_
      exact eret_i K h hr hlk d_Tokens_wordOf_71
    · have h := if_f h q
      refine s_ldc0 K hX d_Tokens_wordOf_18 ?_
      refine j_iload K 5 d_Tokens_wordOf_20 rfl ?_
      obtain ⟨r2, κ2, e2, h⟩ := bd_e h
      refine scallT_i K hN hX (c_String_charAt_ok l D θ ad N 0 x5 κ1 _ e2) eG_Tokens_84 eh_String_charAt (rmA_ok (by decide) (by decide)) rfl (by decide) rfl (st := []) (Nat.le_of_ble_eq_true rfl) rfl d_Tokens_wordOf_22 ⟨Nat.le_of_ble_eq_true rfl, Nat.le_of_ble_eq_true rfl⟩ ?_
      refine j_bipush (v := 32) K d_Tokens_wordOf_25 (by decide) ?_
      refine j_icmp_ne (tgt := 64) K d_Tokens_wordOf_27 (by decide) (fun q => ?_) (fun q => ?_)
      · have h := if_f h q
        obtain ⟨v3, e3, h⟩ := lt_e h
        refine j_iinc (k := 5) (v := v3) (lv' := [(5, .int v3), (0, .ref x0), (1, .int x1), (2, .int x2), (3, .int x3), (4, .int x4)]) K d_Tokens_wordOf_64 rfl (by rw [e3]; rfl) (by decide) rfl ?_
        refine j_goto (tgt := 8) K d_Tokens_wordOf_67 (by decide) ?_
        refine j_sub [1, 2, 3, 4, 5, 0] rfl ?_
        exact ih x0 x1 x2 x3 x4 v3 κ2 h
      · have h := if_t h q
        refine j_iload K 5 d_Tokens_wordOf_30 rfl ?_
        refine j_iload K 4 d_Tokens_wordOf_32 rfl ?_
        refine j_isub K d_Tokens_wordOf_34 ?_
        refine j_iload_n K 2 d_Tokens_wordOf_35 rfl rfl ?_
        refine j_iload_n K 1 d_Tokens_wordOf_36 rfl rfl ?_
        refine j_isub K d_Tokens_wordOf_37 ?_
        refine j_icmp_ne (tgt := 55) K d_Tokens_wordOf_38 (by decide) (fun q => ?_) (fun q => ?_)
        · have h := if_f h q
          obtain ⟨v4, e4, h⟩ := lt_e h
          refine j_iinc (k := 3) (v := v4) (lv' := [(3, .int v4), (0, .ref x0), (1, .int x1), (2, .int x2), (4, .int x4), (5, .int x5)]) K d_Tokens_wordOf_55 rfl (by rw [e4]; rfl) (by decide) rfl ?_
          refine j_iload K 5 d_Tokens_wordOf_58 rfl ?_
          refine j_iconst (v := 1) K d_Tokens_wordOf_60 (by decide) ?_
          refine j_iadd K d_Tokens_wordOf_61 ?_
          obtain ⟨v5, e5, h⟩ := lt_e h
          refine j_eqi e5 ?_
          refine j_istore (lv' := [(4, .int v5), (3, .int v4), (0, .ref x0), (1, .int x1), (2, .int x2), (5, .int x5)]) K d_Tokens_wordOf_62 (by decide) rfl ?_
          obtain ⟨v6, e6, h⟩ := lt_e h
          refine j_iinc (k := 5) (v := v6) (lv' := [(5, .int v6), (4, .int v5), (3, .int v4), (0, .ref x0), (1, .int x1), (2, .int x2)]) K d_Tokens_wordOf_64 rfl (by rw [e6]; rfl) (by decide) rfl ?_
          refine j_goto (tgt := 8) K d_Tokens_wordOf_67 (by decide) ?_
          refine j_sub [3, 4, 5, 2, 1, 0] rfl ?_
          exact ih x0 x1 x2 v4 v5 v6 κ2 h
        · have h := if_t h q
          refine j_aload_n K 0 d_Tokens_wordOf_41 rfl rfl ?_
          refine j_iload_n K 1 d_Tokens_wordOf_42 rfl rfl ?_
          refine j_iload K 4 d_Tokens_wordOf_43 rfl ?_
          refine j_iload K 5 d_Tokens_wordOf_45 rfl ?_
          obtain ⟨r7, κ7, e7, h⟩ := bd_e h
          refine scallS_i K hN hX (c_Tokens_isSpelt_ok l D θ ad N x0 x1 x4 x5 κ2 _ e7) eG_Tokens_88 eh_Tokens_isSpelt (rmA_ok (by decide) (by decide)) rfl (st := []) (Nat.le_of_ble_eq_true rfl) rfl d_Tokens_wordOf_47 ⟨Nat.le_of_ble_eq_true rfl, Nat.le_of_ble_eq_true rfl⟩ ?_
          refine j_if_eq (tgt := 55) K d_Tokens_wordOf_50 (by decide) (fun q => ?_) (fun q => ?_)
          · have h := if_t h q
            obtain ⟨v8, e8, h⟩ := lt_e h
            refine j_iinc (k := 3) (v := v8) (lv' := [(3, .int v8), (0, .ref x0), (1, .int x1), (2, .int x2), (4, .int x4), (5, .int x5)]) K d_Tokens_wordOf_55 rfl (by rw [e8]; rfl) (by decide) rfl ?_
            refine j_iload K 5 d_Tokens_wordOf_58 rfl ?_
            refine j_iconst (v := 1) K d_Tokens_wordOf_60 (by decide) ?_
            refine j_iadd K d_Tokens_wordOf_61 ?_
            obtain ⟨v9, e9, h⟩ := lt_e h
            refine j_eqi e9 ?_
            refine j_istore (lv' := [(4, .int v9), (3, .int v8), (0, .ref x0), (1, .int x1), (2, .int x2), (5, .int x5)]) K d_Tokens_wordOf_62 (by decide) rfl ?_
            obtain ⟨v10, e10, h⟩ := lt_e h
            refine j_iinc (k := 5) (v := v10) (lv' := [(5, .int v10), (4, .int v9), (3, .int v8), (0, .ref x0), (1, .int x1), (2, .int x2)]) K d_Tokens_wordOf_64 rfl (by rw [e10]; rfl) (by decide) rfl ?_
            refine j_goto (tgt := 8) K d_Tokens_wordOf_67 (by decide) ?_
            refine j_sub [3, 4, 5, 2, 1, 0] rfl ?_
            exact ih x0 x1 x2 v8 v9 v10 κ7 h
          · have h := if_f h q
            refine j_iload_n K 3 d_Tokens_wordOf_53 rfl rfl ?_
            exact eret_i K h hr hlk d_Tokens_wordOf_54
def p_Tokens_wordOf (N : Nat) (a1 : Nat) (a2 : Int32) (a3 : Int32) (κ : Cz) : Option (Int32 × Cz) := b_Tokens_wordOf_8 N N a1 a2 a3 0 0 0 κ
set_option maxHeartbeats 4000000 in
set_option maxRecDepth 100000 in
theorem c_Tokens_wordOf_ok (l : Launch) (D : va_G) (θ : Tc) (ad : Ad) (N : Nat) (a1 : Nat) (a2 : Int32) (a3 : Int32) (κ : Cz) (ρ : Int32 × Cz) (h : p_Tokens_wordOf N a1 a2 a3 κ = some ρ) : CSEi l D θ ad y_Tokens_wordOf c_Tokens_wordOf 6 (some .int) 6 [.ref a1, .int a2, .int a3] κ ρ := by
  intro sz
  refine sm_met l [.ref a1, .int a2, .int a3] (by decide +kernel) (Nat.le_of_ble_eq_true rfl) ?_
  intro p e s m args below meth c K hN hX hr hlk hnm hs
  generalize va_A (wE θ κ) sz = A at K hX ⊢
  have K : KE p s m args c c_Tokens_wordOf 6 "ErrataRow$Tokens" y_Tokens_wordOf (some .int) D θ A := K
  show JE p l e (rmA 6 0 0) s m args below meth c D θ A 6 0 0 (QEi below args s D θ A 0 0 ρ) κ [(0, .ref a1), (1, .int a2), (2, .int a3)] [] 0
  unfold p_Tokens_wordOf at h
  refine j_iconst (v := 0) K d_Tokens_wordOf_0 (by decide) ?_
  refine j_istore_n (lv' := [(3, .int 0), (0, .ref a1), (1, .int a2), (2, .int a3)]) K d_Tokens_wordOf_1 rfl (by decide) rfl ?_
  refine j_iconst (v := 0) K d_Tokens_wordOf_2 (by decide) ?_
  refine j_istore (lv' := [(4, .int 0), (3, .int 0), (0, .ref a1), (1, .int a2), (2, .int a3)]) K d_Tokens_wordOf_3 (by decide) rfl ?_
  refine j_iconst (v := 0) K d_Tokens_wordOf_5 (by decide) ?_
  refine j_istore (lv' := [(5, .int 0), (4, .int 0), (3, .int 0), (0, .ref a1), (1, .int a2), (2, .int a3)]) K d_Tokens_wordOf_6 (by decide) rfl ?_
  refine j_sub [3, 4, 5, 2, 1, 0] rfl ?_
  exact t_Tokens_wordOf_8 K hN hX hr hlk N ρ N a1 a2 a3 0 0 0 κ h
def b_Tokens_splitSign_83 (N : Nat) (x3 : Int32) (x5 : Int32) (t0 : Int32) (t1 : Int32) (t2 : Nat) (κ : Cz) : Option (Int32 × Cz) := ck (isK κ t2 9) (bo (p_Tokens_add N t2 t1 t0 x3 κ) (fun κ5 => if x5 = 0 then some (x3 + 1, κ5) else some (x3 + 2, κ5)))
set_option maxHeartbeats 4000000 in
set_option maxRecDepth 100000 in
theorem t_Tokens_splitSign_83 {p : Program} {l : Launch} {e : Env} {s : State} {m : MethodId} {args : Array Value} {below : List Frame} {meth : Method} {c : Code} {D : va_G} {θ : Tc} {A : Nat → Prop} {ad : Ad} (K : KE p s m args c c_Tokens_splitSign 6 "ErrataRow$Tokens" y_Tokens_splitSign (some .int) D θ A) (hN : NX s) (hX : SC ad A s s.heap) (hr : meth.sig.returnType = (some .int)) (hlk : meth.locks = false) (N : Nat) (ρ : Int32 × Cz) (x3 : Int32) (x5 : Int32) (t0 : Int32) (t1 : Int32) (t2 : Nat) (κ : Cz) (h : b_Tokens_splitSign_83 N x3 x5 t0 t1 t2 κ = some ρ) : JE p l e (rmA 5 0 0) s m args below meth c D θ A 6 0 0 (QEi below args s D θ A 0 0 ρ) κ [(3, .int x3), (5, .int x5)] [.int t0, .int t1, .ref t2] 83 := by
  unfold b_Tokens_splitSign_83 at h
  refine j_iload_n K 0 d_Tokens_splitSign_83 rfl rfl ?_
  obtain ⟨q6, h⟩ := ck_e h
  obtain ⟨κ5, e5, h⟩ := bo_e h
  refine ecallV_v K hN (c_Tokens_add_ok l D θ N t2 t1 t0 x3 κ _ e5) eG_Tokens_35 eh_Tokens_add (by decide) (rmA_ok (by decide) (by decide)) rfl q6 (by decide) rfl (st := []) (Nat.le_of_ble_eq_true rfl) rfl d_Tokens_splitSign_84 ⟨Nat.le_of_ble_eq_true rfl, Nat.le_of_ble_eq_true rfl⟩ ?_
  refine j_iload K 1 d_Tokens_splitSign_87 rfl ?_
  refine j_if_eq (tgt := 98) K d_Tokens_splitSign_89 (by decide) (fun q => ?_) (fun q => ?_)
  · have h := if_t h q
    refine j_iload_n K 0 d_Tokens_splitSign_98 rfl rfl ?_
    refine j_iconst (v := 1) K d_Tokens_splitSign_99 (by decide) ?_
    refine j_iadd K d_Tokens_splitSign_100 ?_
    exact eret_i K h hr hlk d_Tokens_splitSign_101
  · have h := if_f h q
    refine j_iload_n K 0 d_Tokens_splitSign_92 rfl rfl ?_
    refine j_iconst (v := 2) K d_Tokens_splitSign_93 (by decide) ?_
    refine j_iadd K d_Tokens_splitSign_94 ?_
    refine j_goto (tgt := 101) K d_Tokens_splitSign_95 (by decide) ?_
    exact eret_i K h hr hlk d_Tokens_splitSign_101
def b_Tokens_splitSign_63 (N : Nat) (x0 : Nat) (x3 : Int32) (x4 : Int32) (t0 : Int32) (κ : Cz) : Option (Int32 × Cz) := if t0 = 0 then b_Tokens_splitSign_83 N x3 t0 x4 4 x0 κ else b_Tokens_splitSign_83 N x3 t0 (x4 + 256) 4 x0 κ
set_option maxHeartbeats 4000000 in
set_option maxRecDepth 100000 in
theorem t_Tokens_splitSign_63 {p : Program} {l : Launch} {e : Env} {s : State} {m : MethodId} {args : Array Value} {below : List Frame} {meth : Method} {c : Code} {D : va_G} {θ : Tc} {A : Nat → Prop} {ad : Ad} (K : KE p s m args c c_Tokens_splitSign 6 "ErrataRow$Tokens" y_Tokens_splitSign (some .int) D θ A) (hN : NX s) (hX : SC ad A s s.heap) (hr : meth.sig.returnType = (some .int)) (hlk : meth.locks = false) (N : Nat) (ρ : Int32 × Cz) (x0 : Nat) (x3 : Int32) (x4 : Int32) (t0 : Int32) (κ : Cz) (h : b_Tokens_splitSign_63 N x0 x3 x4 t0 κ = some ρ) : JE p l e (rmA 5 0 0) s m args below meth c D θ A 6 0 0 (QEi below args s D θ A 0 0 ρ) κ [(0, .ref x0), (3, .int x3), (4, .int x4)] [.int t0] 63 := by
  unfold b_Tokens_splitSign_63 at h
  refine j_istore (lv' := [(5, .int t0), (0, .ref x0), (3, .int x3), (4, .int x4)]) K d_Tokens_splitSign_63 (by decide) rfl ?_
  refine j_aload_n K 1 d_Tokens_splitSign_65 rfl rfl ?_
  refine j_iconst (v := 4) K d_Tokens_splitSign_66 (by decide) ?_
  refine j_iload K 0 d_Tokens_splitSign_67 rfl ?_
  refine j_if_eq (tgt := 81) K d_Tokens_splitSign_69 (by decide) (fun q => ?_) (fun q => ?_)
  · have h := if_t h q
    refine j_iload K 3 d_Tokens_splitSign_81 rfl ?_
    refine j_sub [2, 0] rfl ?_
    exact t_Tokens_splitSign_83 K hN hX hr hlk N ρ x3 t0 x4 4 x0 κ h
  · have h := if_f h q
    refine j_iload K 3 d_Tokens_splitSign_72 rfl ?_
    refine j_sipush (v := 256) K d_Tokens_splitSign_74 (by decide) ?_
    refine j_iadd K d_Tokens_splitSign_77 ?_
    refine j_goto (tgt := 83) K d_Tokens_splitSign_78 (by decide) ?_
    refine j_sub [2, 0] rfl ?_
    exact t_Tokens_splitSign_83 K hN hX hr hlk N ρ x3 t0 (x4 + 256) 4 x0 κ h
def b_Tokens_splitSign_62 (N : Nat) (x0 : Nat) (x3 : Int32) (x4 : Int32) (κ : Cz) : Option (Int32 × Cz) := b_Tokens_splitSign_63 N x0 x3 x4 0 κ
set_option maxHeartbeats 4000000 in
set_option maxRecDepth 100000 in
theorem t_Tokens_splitSign_62 {p : Program} {l : Launch} {e : Env} {s : State} {m : MethodId} {args : Array Value} {below : List Frame} {meth : Method} {c : Code} {D : va_G} {θ : Tc} {A : Nat → Prop} {ad : Ad} (K : KE p s m args c c_Tokens_splitSign 6 "ErrataRow$Tokens" y_Tokens_splitSign (some .int) D θ A) (hN : NX s) (hX : SC ad A s s.heap) (hr : meth.sig.returnType = (some .int)) (hlk : meth.locks = false) (N : Nat) (ρ : Int32 × Cz) (x0 : Nat) (x3 : Int32) (x4 : Int32) (κ : Cz) (h : b_Tokens_splitSign_62 N x0 x3 x4 κ = some ρ) : JE p l e (rmA 5 0 0) s m args below meth c D θ A 6 0 0 (QEi below args s D θ A 0 0 ρ) κ [(0, .ref x0), (3, .int x3), (4, .int x4)] [] 62 := by
  unfold b_Tokens_splitSign_62 at h
  refine j_iconst (v := 0) K d_Tokens_splitSign_62 (by decide) ?_
  exact t_Tokens_splitSign_63 K hN hX hr hlk N ρ x0 x3 x4 0 κ h
def b_Tokens_splitSign_41 (N : Nat) (x0 : Nat) (x1 : Nat) (x2 : Int32) (x3 : Int32) (x4 : Int32) (κ : Cz) : Option (Int32 × Cz) := if x2 ≤ (x3 + 1) then b_Tokens_splitSign_62 N x0 x3 x4 κ else lt (x3 + 1) (fun v7 => ck (isK κ x1 20) (ck (inb v7 (ln κ x1)) (if (ai κ x1 v7.toNatClampNeg) = 61 then b_Tokens_splitSign_63 N x0 x3 x4 1 κ else b_Tokens_splitSign_62 N x0 x3 x4 κ)))
set_option maxHeartbeats 4000000 in
set_option maxRecDepth 100000 in
theorem t_Tokens_splitSign_41 {p : Program} {l : Launch} {e : Env} {s : State} {m : MethodId} {args : Array Value} {below : List Frame} {meth : Method} {c : Code} {D : va_G} {θ : Tc} {A : Nat → Prop} {ad : Ad} (K : KE p s m args c c_Tokens_splitSign 6 "ErrataRow$Tokens" y_Tokens_splitSign (some .int) D θ A) (hN : NX s) (hX : SC ad A s s.heap) (hr : meth.sig.returnType = (some .int)) (hlk : meth.locks = false) (N : Nat) (ρ : Int32 × Cz) (x0 : Nat) (x1 : Nat) (x2 : Int32) (x3 : Int32) (x4 : Int32) (κ : Cz) (h : b_Tokens_splitSign_41 N x0 x1 x2 x3 x4 κ = some ρ) : JE p l e (rmA 5 0 0) s m args below meth c D θ A 6 0 0 (QEi below args s D θ A 0 0 ρ) κ [(0, .ref x0), (1, .ref x1), (2, .int x2), (3, .int x3), (4, .int x4)] [] 41 := by
  unfold b_Tokens_splitSign_41 at h
  refine j_iload_n K 3 d_Tokens_splitSign_41 rfl rfl ?_
  refine j_iconst (v := 1) K d_Tokens_splitSign_42 (by decide) ?_
  refine j_iadd K d_Tokens_splitSign_43 ?_
  refine j_iload_n K 2 d_Tokens_splitSign_44 rfl rfl ?_
  refine j_icmp_ge (tgt := 62) K d_Tokens_splitSign_45 (by decide) (fun q => ?_) (fun q => ?_)
  · have h := if_t h q
    refine j_sub [0, 3, 4] rfl ?_
    exact t_Tokens_splitSign_62 K hN hX hr hlk N ρ x0 x3 x4 κ h
  · have h := if_f h q
    refine j_aload_n K 1 d_Tokens_splitSign_48 rfl rfl ?_
    refine j_iload_n K 3 d_Tokens_splitSign_49 rfl rfl ?_
    refine j_iconst (v := 1) K d_Tokens_splitSign_50 (by decide) ?_
    refine j_iadd K d_Tokens_splitSign_51 ?_
    obtain ⟨v7, e7, h⟩ := lt_e h
    refine j_eqi e7 ?_
    obtain ⟨q8, h⟩ := ck_e h
    obtain ⟨q9, h⟩ := ck_e h
    refine e_iald K q8 (inb_e q9) d_Tokens_splitSign_52 ?_
    refine j_bipush (v := 61) K d_Tokens_splitSign_53 (by decide) ?_
    refine j_icmp_ne (tgt := 62) K d_Tokens_splitSign_55 (by decide) (fun q => ?_) (fun q => ?_)
    · have h := if_f h q
      refine j_sub [0, 3, 4] rfl ?_
      exact t_Tokens_splitSign_62 K hN hX hr hlk N ρ x0 x3 x4 κ h
    · have h := if_t h q
      refine j_iconst (v := 1) K d_Tokens_splitSign_58 (by decide) ?_
      refine j_goto (tgt := 63) K d_Tokens_splitSign_59 (by decide) ?_
      refine j_sub [0, 3, 4] rfl ?_
      exact t_Tokens_splitSign_63 K hN hX hr hlk N ρ x0 x3 x4 1 κ h
def p_Tokens_splitSign (N : Nat) (this : Nat) (a1 : Nat) (a2 : Int32) (a3 : Int32) (κ : Cz) : Option (Int32 × Cz) := ck (isK κ a1 20) (ck (inb a3 (ln κ a1)) (lt (ai κ a1 a3.toNatClampNeg) (fun v3 => bd (p_String_indexOf1 N 1 ((v3.toUInt32 % 65536).toInt32) κ) (fun r4 κ4 => if 0 ≤ r4 then if v3 = 60 then b_Tokens_splitSign_41 N this a1 a2 a3 v3 κ4 else if v3 = 62 then b_Tokens_splitSign_41 N this a1 a2 a3 v3 κ4 else b_Tokens_splitSign_62 N this a3 v3 κ4 else ck (isK κ4 this 9) (bo (p_Tokens_add N this 5 0 a3 κ4) (fun κ10 => some (a3 + 1, κ10)))))))
set_option maxHeartbeats 4000000 in
set_option maxRecDepth 100000 in
theorem c_Tokens_splitSign_ok (l : Launch) (D : va_G) (θ : Tc) (ad : Ad) (N : Nat) (this : Nat) (a1 : Nat) (a2 : Int32) (a3 : Int32) (κ : Cz) (ρ : Int32 × Cz) (h : p_Tokens_splitSign N this a1 a2 a3 κ = some ρ) : CSEi l D θ ad y_Tokens_splitSign c_Tokens_splitSign 6 (some .int) 5 [.ref this, .ref a1, .int a2, .int a3] κ ρ := by
  intro sz
  refine sm_met l [.ref this, .ref a1, .int a2, .int a3] (by decide +kernel) (Nat.le_of_ble_eq_true rfl) ?_
  intro p e s m args below meth c K hN hX hr hlk hnm hs
  generalize va_A (wE θ κ) sz = A at K hX ⊢
  have K : KE p s m args c c_Tokens_splitSign 6 "ErrataRow$Tokens" y_Tokens_splitSign (some .int) D θ A := K
  show JE p l e (rmA 5 0 0) s m args below meth c D θ A 6 0 0 (QEi below args s D θ A 0 0 ρ) κ [(0, .ref this), (1, .ref a1), (2, .int a2), (3, .int a3)] [] 0
  unfold p_Tokens_splitSign at h
  refine j_aload_n K 1 d_Tokens_splitSign_0 rfl rfl ?_
  refine j_iload_n K 3 d_Tokens_splitSign_1 rfl rfl ?_
  obtain ⟨q1, h⟩ := ck_e h
  obtain ⟨q2, h⟩ := ck_e h
  refine e_iald K q1 (inb_e q2) d_Tokens_splitSign_2 ?_
  obtain ⟨v3, e3, h⟩ := lt_e h
  refine j_eqi e3 ?_
  refine j_istore (lv' := [(4, .int v3), (0, .ref this), (1, .ref a1), (2, .int a2), (3, .int a3)]) K d_Tokens_splitSign_3 (by decide) rfl ?_
  refine s_ldc1 K hX d_Tokens_splitSign_5 ?_
  refine j_iload K 0 d_Tokens_splitSign_7 rfl ?_
  refine j_i2c K d_Tokens_splitSign_9 ?_
  obtain ⟨r4, κ4, e4, h⟩ := bd_e h
  refine scallT_i K hN hX (c_String_indexOf1_ok l D θ ad N 1 ((v3.toUInt32 % 65536).toInt32) κ _ e4) eG_Tokens_72 eh_String_indexOf1 (rmA_ok (by decide) (by decide)) rfl (by decide) rfl (st := []) (Nat.le_of_ble_eq_true rfl) rfl d_Tokens_splitSign_10 ⟨Nat.le_of_ble_eq_true rfl, Nat.le_of_ble_eq_true rfl⟩ ?_
  refine j_if_ge (tgt := 27) K d_Tokens_splitSign_13 (by decide) (fun q => ?_) (fun q => ?_)
  · have h := if_t h q
    refine j_iload K 0 d_Tokens_splitSign_27 rfl ?_
    refine j_bipush (v := 60) K d_Tokens_splitSign_29 (by decide) ?_
    refine j_icmp_eq (tgt := 41) K d_Tokens_splitSign_31 (by decide) (fun q => ?_) (fun q => ?_)
    · have h := if_t h q
      refine j_sub [1, 2, 3, 4, 0] rfl ?_
      exact t_Tokens_splitSign_41 K hN hX hr hlk N ρ this a1 a2 a3 v3 κ4 h
    · have h := if_f h q
      refine j_iload K 0 d_Tokens_splitSign_34 rfl ?_
      refine j_bipush (v := 62) K d_Tokens_splitSign_36 (by decide) ?_
      refine j_icmp_ne (tgt := 62) K d_Tokens_splitSign_38 (by decide) (fun q => ?_) (fun q => ?_)
      · have h := if_f h q
        refine j_sub [1, 4, 0] rfl ?_
        exact t_Tokens_splitSign_62 K hN hX hr hlk N ρ this a3 v3 κ4 h
      · have h := if_t h q
        refine j_sub [1, 2, 3, 4, 0] rfl ?_
        exact t_Tokens_splitSign_41 K hN hX hr hlk N ρ this a1 a2 a3 v3 κ4 h
  · have h := if_f h q
    refine j_aload_n K 1 d_Tokens_splitSign_16 rfl rfl ?_
    refine j_iconst (v := 5) K d_Tokens_splitSign_17 (by decide) ?_
    refine j_iconst (v := 0) K d_Tokens_splitSign_18 (by decide) ?_
    refine j_iload_n K 4 d_Tokens_splitSign_19 rfl rfl ?_
    obtain ⟨q11, h⟩ := ck_e h
    obtain ⟨κ10, e10, h⟩ := bo_e h
    refine ecallV_v K hN (c_Tokens_add_ok l D θ N this 5 0 a3 κ4 _ e10) eG_Tokens_35 eh_Tokens_add (by decide) (rmA_ok (by decide) (by decide)) rfl q11 (by decide) rfl (st := []) (Nat.le_of_ble_eq_true rfl) rfl d_Tokens_splitSign_20 ⟨Nat.le_of_ble_eq_true rfl, Nat.le_of_ble_eq_true rfl⟩ ?_
    refine j_iload_n K 4 d_Tokens_splitSign_23 rfl rfl ?_
    refine j_iconst (v := 1) K d_Tokens_splitSign_24 (by decide) ?_
    refine j_iadd K d_Tokens_splitSign_25 ?_
    exact eret_i K h hr hlk d_Tokens_splitSign_26
def b_Tokens_splitWord_25 (N : Nat) (x0 : Nat) (x1 : Nat) (x3 : Int32) (x4 : Int32) (κ : Cz) : Option (Int32 × Cz) := bd (p_Tokens_wordOf N x1 x3 x4 κ) (fun r1 κ1 => if r1 = (-1) then ck (isK κ1 x0 9) (bo (p_Tokens_add N x0 5 r1 x3 κ1) (fun κ4 => some (x4, κ4))) else ck (isK κ1 x0 9) (bo (p_Tokens_add N x0 3 r1 x3 κ1) (fun κ2 => some (x4, κ2))))
set_option maxHeartbeats 4000000 in
set_option maxRecDepth 100000 in
theorem t_Tokens_splitWord_25 {p : Program} {l : Launch} {e : Env} {s : State} {m : MethodId} {args : Array Value} {below : List Frame} {meth : Method} {c : Code} {D : va_G} {θ : Tc} {A : Nat → Prop} {ad : Ad} (K : KE p s m args c c_Tokens_splitWord 6 "ErrataRow$Tokens" y_Tokens_splitWord (some .int) D θ A) (hN : NX s) (hX : SC ad A s s.heap) (hr : meth.sig.returnType = (some .int)) (hlk : meth.locks = false) (N : Nat) (ρ : Int32 × Cz) (x0 : Nat) (x1 : Nat) (x3 : Int32) (x4 : Int32) (κ : Cz) (h : b_Tokens_splitWord_25 N x0 x1 x3 x4 κ = some ρ) : JE p l e (rmA 7 0 0) s m args below meth c D θ A 6 0 0 (QEi below args s D θ A 0 0 ρ) κ [(0, .ref x0), (1, .ref x1), (3, .int x3), (4, .int x4)] [] 25 := by
  unfold b_Tokens_splitWord_25 at h
  refine j_aload_n K 1 d_Tokens_splitWord_25 rfl rfl ?_
  refine j_iload_n K 2 d_Tokens_splitWord_26 rfl rfl ?_
  refine j_iload K 3 d_Tokens_splitWord_27 rfl ?_
  obtain ⟨r1, κ1, e1, h⟩ := bd_e h
  refine scallS_i K hN hX (c_Tokens_wordOf_ok l D θ ad N x1 x3 x4 κ _ e1) eG_Tokens_67 eh_Tokens_wordOf (rmA_ok (by decide) (by decide)) rfl (st := []) (Nat.le_of_ble_eq_true rfl) rfl d_Tokens_splitWord_29 ⟨Nat.le_of_ble_eq_true rfl, Nat.le_of_ble_eq_true rfl⟩ ?_
  refine j_istore (lv' := [(5, .int r1), (0, .ref x0), (1, .ref x1), (3, .int x3), (4, .int x4)]) K d_Tokens_splitWord_32 (by decide) rfl ?_
  refine j_aload_n K 1 d_Tokens_splitWord_34 rfl rfl ?_
  refine j_iload K 0 d_Tokens_splitWord_35 rfl ?_
  refine j_iconst (v := (-1)) K d_Tokens_splitWord_37 (by decide) ?_
  refine j_icmp_ne (tgt := 45) K d_Tokens_splitWord_38 (by decide) (fun q => ?_) (fun q => ?_)
  · have h := if_f h q
    refine j_iconst (v := 3) K d_Tokens_splitWord_45 (by decide) ?_
    refine j_iload K 0 d_Tokens_splitWord_46 rfl ?_
    refine j_iload_n K 3 d_Tokens_splitWord_48 rfl rfl ?_
    obtain ⟨q3, h⟩ := ck_e h
    obtain ⟨κ2, e2, h⟩ := bo_e h
    refine ecallV_v K hN (c_Tokens_add_ok l D θ N x0 3 r1 x3 κ1 _ e2) eG_Tokens_35 eh_Tokens_add (by decide) (rmA_ok (by decide) (by decide)) rfl q3 (by decide) rfl (st := []) (Nat.le_of_ble_eq_true rfl) rfl d_Tokens_splitWord_49 ⟨Nat.le_of_ble_eq_true rfl, Nat.le_of_ble_eq_true rfl⟩ ?_
    refine j_iload K 4 d_Tokens_splitWord_52 rfl ?_
    exact eret_i K h hr hlk d_Tokens_splitWord_54
  · have h := if_t h q
    refine j_iconst (v := 5) K d_Tokens_splitWord_41 (by decide) ?_
    refine j_goto (tgt := 46) K d_Tokens_splitWord_42 (by decide) ?_
    refine j_iload K 0 d_Tokens_splitWord_46 rfl ?_
    refine j_iload_n K 3 d_Tokens_splitWord_48 rfl rfl ?_
    obtain ⟨q5, h⟩ := ck_e h
    obtain ⟨κ4, e4, h⟩ := bo_e h
    refine ecallV_v K hN (c_Tokens_add_ok l D θ N x0 5 r1 x3 κ1 _ e4) eG_Tokens_35 eh_Tokens_add (by decide) (rmA_ok (by decide) (by decide)) rfl q5 (by decide) rfl (st := []) (Nat.le_of_ble_eq_true rfl) rfl d_Tokens_splitWord_49 ⟨Nat.le_of_ble_eq_true rfl, Nat.le_of_ble_eq_true rfl⟩ ?_
    refine j_iload K 4 d_Tokens_splitWord_52 rfl ?_
    exact eret_i K h hr hlk d_Tokens_splitWord_54
def b_Tokens_splitWord_3 (N : Nat) : Nat → Nat → Nat → Int32 → Int32 → Int32 → Cz → Option (Int32 × Cz)
  | 0, _, _, _, _, _, _ => none
  | n + 1, x0, x1, x2, x3, x4, κ => if x2 ≤ x4 then b_Tokens_splitWord_25 N x0 x1 x3 x4 κ else ck (isK κ x1 20) (ck (inb x4 (ln κ x1)) (bd (p_Tokens_isSmall N (ai κ x1 x4.toNatClampNeg) κ) (fun r8 κ8 => if r8 = 0 then b_Tokens_splitWord_25 N x0 x1 x3 x4 κ8 else lt (x4 + 1) (fun v9 => b_Tokens_splitWord_3 N n x0 x1 x2 x3 v9 κ8))))
set_option maxHeartbeats 4000000 in
set_option maxRecDepth 100000 in
theorem t_Tokens_splitWord_3 {p : Program} {l : Launch} {e : Env} {s : State} {m : MethodId} {args : Array Value} {below : List Frame} {meth : Method} {c : Code} {D : va_G} {θ : Tc} {A : Nat → Prop} {ad : Ad} (K : KE p s m args c c_Tokens_splitWord 6 "ErrataRow$Tokens" y_Tokens_splitWord (some .int) D θ A) (hN : NX s) (hX : SC ad A s s.heap) (hr : meth.sig.returnType = (some .int)) (hlk : meth.locks = false) (N : Nat) (ρ : Int32 × Cz) : ∀ (n : Nat) (x0 : Nat) (x1 : Nat) (x2 : Int32) (x3 : Int32) (x4 : Int32) (κ : Cz), b_Tokens_splitWord_3 N n x0 x1 x2 x3 x4 κ = some ρ → JE p l e (rmA 7 0 0) s m args below meth c D θ A 6 0 0 (QEi below args s D θ A 0 0 ρ) κ [(0, .ref x0), (1, .ref x1), (2, .int x2), (3, .int x3), (4, .int x4)] [] 3 := by
  intro n
  induction n with
  | zero =>
    intro x0 x1 x2 x3 x4 κ h
    exact absurd h (by simp [b_Tokens_splitWord_3])
  | succ n ih =>
    intro x0 x1 x2 x3 x4 κ h
    rw [b_Tokens_splitWord_3] at h
    refine j_iload K 4 d_Tokens_splitWord_3 rfl ?_
    refine j_iload_n K 2 d_Tokens_splitWord_5 rfl rfl ?_
    refine j_icmp_ge (tgt := 25) K d_Tokens_splitWord_6 (by decide) (fun q => ?_) (fun q => ?_)
    · have h := if_t h q
      refine j_sub [0, 1, 3, 4] rfl ?_
      exact t_Tokens_splitWord_25 K hN hX hr hlk N ρ x0 x1 x3 x4 κ h
    · have h := if_f h q
      refine j_aload_n K 1 d_Tokens_splitWord_9 rfl rfl ?_
      refine j_iload K 4 d_Tokens_splitWord_10 rfl ?_
      obtain ⟨q6, h⟩ := ck_e h
      obtain ⟨q7, h⟩ := ck_e h
      refine e_iald K q6 (inb_e q7) d_Tokens_splitWord_12 ?_
      obtain ⟨r8, κ8, e8, h⟩ := bd_e h
      refine ecallS_i K hN (c_Tokens_isSmall_ok l D θ N (ai κ x1 x4.toNatClampNeg) κ _ e8) eG_Tokens_58 eh_Tokens_isSmall (by decide) (rmA_ok (by decide) (by decide)) rfl (st := []) (Nat.le_of_ble_eq_true rfl) rfl d_Tokens_splitWord_13 ⟨Nat.le_of_ble_eq_true rfl, Nat.le_of_ble_eq_true rfl⟩ ?_
      refine j_if_eq (tgt := 25) K d_Tokens_splitWord_16 (by decide) (fun q => ?_) (fun q => ?_)
      · have h := if_t h q
        refine j_sub [0, 1, 3, 4] rfl ?_
        exact t_Tokens_splitWord_25 K hN hX hr hlk N ρ x0 x1 x3 x4 κ8 h
      · have h := if_f h q
        obtain ⟨v9, e9, h⟩ := lt_e h
        refine j_iinc (k := 4) (v := v9) (lv' := [(4, .int v9), (0, .ref x0), (1, .ref x1), (2, .int x2), (3, .int x3)]) K d_Tokens_splitWord_19 rfl (by rw [e9]; rfl) (by decide) rfl ?_
        refine j_goto (tgt := 3) K d_Tokens_splitWord_22 (by decide) ?_
        refine j_sub [1, 2, 3, 4, 0] rfl ?_
        exact ih x0 x1 x2 x3 v9 κ8 h
def p_Tokens_splitWord (N : Nat) (this : Nat) (a1 : Nat) (a2 : Int32) (a3 : Int32) (κ : Cz) : Option (Int32 × Cz) := b_Tokens_splitWord_3 N N this a1 a2 a3 a3 κ
set_option maxHeartbeats 4000000 in
set_option maxRecDepth 100000 in
theorem c_Tokens_splitWord_ok (l : Launch) (D : va_G) (θ : Tc) (ad : Ad) (N : Nat) (this : Nat) (a1 : Nat) (a2 : Int32) (a3 : Int32) (κ : Cz) (ρ : Int32 × Cz) (h : p_Tokens_splitWord N this a1 a2 a3 κ = some ρ) : CSEi l D θ ad y_Tokens_splitWord c_Tokens_splitWord 6 (some .int) 7 [.ref this, .ref a1, .int a2, .int a3] κ ρ := by
  intro sz
  refine sm_met l [.ref this, .ref a1, .int a2, .int a3] (by decide +kernel) (Nat.le_of_ble_eq_true rfl) ?_
  intro p e s m args below meth c K hN hX hr hlk hnm hs
  generalize va_A (wE θ κ) sz = A at K hX ⊢
  have K : KE p s m args c c_Tokens_splitWord 6 "ErrataRow$Tokens" y_Tokens_splitWord (some .int) D θ A := K
  show JE p l e (rmA 7 0 0) s m args below meth c D θ A 6 0 0 (QEi below args s D θ A 0 0 ρ) κ [(0, .ref this), (1, .ref a1), (2, .int a2), (3, .int a3)] [] 0
  unfold p_Tokens_splitWord at h
  refine j_iload_n K 3 d_Tokens_splitWord_0 rfl rfl ?_
  refine j_istore (lv' := [(4, .int a3), (0, .ref this), (1, .ref a1), (2, .int a2), (3, .int a3)]) K d_Tokens_splitWord_1 (by decide) rfl ?_
  refine j_sub [1, 2, 3, 4, 0] rfl ?_
  exact t_Tokens_splitWord_3 K hN hX hr hlk N ρ N this a1 a2 a3 a3 κ h
def p_Tokens_splitOne (N : Nat) (this : Nat) (a1 : Nat) (a2 : Int32) (a3 : Int32) (κ : Cz) : Option (Int32 × Cz) := ck (isK κ a1 20) (ck (inb a3 (ln κ a1)) (lt (ai κ a1 a3.toNatClampNeg) (fun v3 => if v3 = 32 then some (a3 + 1, κ) else bd (p_Tokens_isDigit N v3 κ) (fun r4 κ4 => if r4 = 0 then bd (p_Tokens_isSmall N v3 κ4) (fun r5 κ5 => if r5 = 0 then ck (isK κ5 this 9) (bd (p_Tokens_splitSign N this a1 a2 a3 κ5) (fun r6 κ6 => some (r6, κ6))) else ck (isK κ5 this 9) (bd (p_Tokens_splitWord N this a1 a2 a3 κ5) (fun r8 κ8 => some (r8, κ8)))) else ck (isK κ4 this 9) (bd (p_Tokens_splitNumber N this a1 a2 a3 κ4) (fun r10 κ10 => some (r10, κ10)))))))
set_option maxHeartbeats 4000000 in
set_option maxRecDepth 100000 in
theorem c_Tokens_splitOne_ok (l : Launch) (D : va_G) (θ : Tc) (ad : Ad) (N : Nat) (this : Nat) (a1 : Nat) (a2 : Int32) (a3 : Int32) (κ : Cz) (ρ : Int32 × Cz) (h : p_Tokens_splitOne N this a1 a2 a3 κ = some ρ) : CSEi l D θ ad y_Tokens_splitOne c_Tokens_splitOne 5 (some .int) 8 [.ref this, .ref a1, .int a2, .int a3] κ ρ := by
  intro sz
  refine sm_met l [.ref this, .ref a1, .int a2, .int a3] (by decide +kernel) (Nat.le_of_ble_eq_true rfl) ?_
  intro p e s m args below meth c K hN hX hr hlk hnm hs
  generalize va_A (wE θ κ) sz = A at K hX ⊢
  have K : KE p s m args c c_Tokens_splitOne 5 "ErrataRow$Tokens" y_Tokens_splitOne (some .int) D θ A := K
  show JE p l e (rmA 8 0 0) s m args below meth c D θ A 5 0 0 (QEi below args s D θ A 0 0 ρ) κ [(0, .ref this), (1, .ref a1), (2, .int a2), (3, .int a3)] [] 0
  unfold p_Tokens_splitOne at h
  refine j_aload_n K 1 d_Tokens_splitOne_0 rfl rfl ?_
  refine j_iload_n K 3 d_Tokens_splitOne_1 rfl rfl ?_
  obtain ⟨q1, h⟩ := ck_e h
  obtain ⟨q2, h⟩ := ck_e h
  refine e_iald K q1 (inb_e q2) d_Tokens_splitOne_2 ?_
  obtain ⟨v3, e3, h⟩ := lt_e h
  refine j_eqi e3 ?_
  refine j_istore (lv' := [(4, .int v3), (0, .ref this), (1, .ref a1), (2, .int a2), (3, .int a3)]) K d_Tokens_splitOne_3 (by decide) rfl ?_
  refine j_iload K 0 d_Tokens_splitOne_5 rfl ?_
  refine j_bipush (v := 32) K d_Tokens_splitOne_7 (by decide) ?_
  refine j_icmp_ne (tgt := 16) K d_Tokens_splitOne_9 (by decide) (fun q => ?_) (fun q => ?_)
  · have h := if_f h q
    refine j_iload K 0 d_Tokens_splitOne_16 rfl ?_
    obtain ⟨r4, κ4, e4, h⟩ := bd_e h
    refine ecallS_i K hN (c_Tokens_isDigit_ok l D θ N v3 κ _ e4) eG_Tokens_51 eh_Tokens_isDigit (by decide) (rmA_ok (by decide) (by decide)) rfl (st := []) (Nat.le_of_ble_eq_true rfl) rfl d_Tokens_splitOne_18 ⟨Nat.le_of_ble_eq_true rfl, Nat.le_of_ble_eq_true rfl⟩ ?_
    refine j_if_eq (tgt := 32) K d_Tokens_splitOne_21 (by decide) (fun q => ?_) (fun q => ?_)
    · have h := if_t h q
      refine j_iload K 0 d_Tokens_splitOne_32 rfl ?_
      obtain ⟨r5, κ5, e5, h⟩ := bd_e h
      refine ecallS_i K hN (c_Tokens_isSmall_ok l D θ N v3 κ4 _ e5) eG_Tokens_58 eh_Tokens_isSmall (by decide) (rmA_ok (by decide) (by decide)) rfl (st := []) (Nat.le_of_ble_eq_true rfl) rfl d_Tokens_splitOne_34 ⟨Nat.le_of_ble_eq_true rfl, Nat.le_of_ble_eq_true rfl⟩ ?_
      refine j_if_eq (tgt := 50) K d_Tokens_splitOne_37 (by decide) (fun q => ?_) (fun q => ?_)
      · have h := if_t h q
        refine j_aload_n K 1 d_Tokens_splitOne_50 rfl rfl ?_
        refine j_aload_n K 2 d_Tokens_splitOne_51 rfl rfl ?_
        refine j_iload_n K 3 d_Tokens_splitOne_52 rfl rfl ?_
        refine j_iload_n K 4 d_Tokens_splitOne_53 rfl rfl ?_
        obtain ⟨q7, h⟩ := ck_e h
        obtain ⟨r6, κ6, e6, h⟩ := bd_e h
        refine scallV_i K hN hX (c_Tokens_splitSign_ok l D θ ad N this a1 a2 a3 κ5 _ e6) eG_Tokens_64 eh_Tokens_splitSign (rmA_ok (by decide) (by decide)) rfl q7 (by decide) rfl (st := []) (Nat.le_of_ble_eq_true rfl) rfl d_Tokens_splitOne_54 ⟨Nat.le_of_ble_eq_true rfl, Nat.le_of_ble_eq_true rfl⟩ ?_
        exact eret_i K h hr hlk d_Tokens_splitOne_57
      · have h := if_f h q
        refine j_aload_n K 1 d_Tokens_splitOne_40 rfl rfl ?_
        refine j_aload_n K 2 d_Tokens_splitOne_41 rfl rfl ?_
        refine j_iload_n K 3 d_Tokens_splitOne_42 rfl rfl ?_
        refine j_iload_n K 4 d_Tokens_splitOne_43 rfl rfl ?_
        obtain ⟨q9, h⟩ := ck_e h
        obtain ⟨r8, κ8, e8, h⟩ := bd_e h
        refine scallV_i K hN hX (c_Tokens_splitWord_ok l D θ ad N this a1 a2 a3 κ5 _ e8) eG_Tokens_61 eh_Tokens_splitWord (rmA_ok (by decide) (by decide)) rfl q9 (by decide) rfl (st := []) (Nat.le_of_ble_eq_true rfl) rfl d_Tokens_splitOne_44 ⟨Nat.le_of_ble_eq_true rfl, Nat.le_of_ble_eq_true rfl⟩ ?_
        refine j_goto (tgt := 57) K d_Tokens_splitOne_47 (by decide) ?_
        exact eret_i K h hr hlk d_Tokens_splitOne_57
    · have h := if_f h q
      refine j_aload_n K 1 d_Tokens_splitOne_24 rfl rfl ?_
      refine j_aload_n K 2 d_Tokens_splitOne_25 rfl rfl ?_
      refine j_iload_n K 3 d_Tokens_splitOne_26 rfl rfl ?_
      refine j_iload_n K 4 d_Tokens_splitOne_27 rfl rfl ?_
      obtain ⟨q11, h⟩ := ck_e h
      obtain ⟨r10, κ10, e10, h⟩ := bd_e h
      refine ecallV_i K hN (c_Tokens_splitNumber_ok l D θ N this a1 a2 a3 κ4 _ e10) eG_Tokens_55 eh_Tokens_splitNumber (by decide) (rmA_ok (by decide) (by decide)) rfl q11 (by decide) rfl (st := []) (Nat.le_of_ble_eq_true rfl) rfl d_Tokens_splitOne_28 ⟨Nat.le_of_ble_eq_true rfl, Nat.le_of_ble_eq_true rfl⟩ ?_
      exact eret_i K h hr hlk d_Tokens_splitOne_31
  · have h := if_t h q
    refine j_iload_n K 4 d_Tokens_splitOne_12 rfl rfl ?_
    refine j_iconst (v := 1) K d_Tokens_splitOne_13 (by decide) ?_
    refine j_iadd K d_Tokens_splitOne_14 ?_
    exact eret_i K h hr hlk d_Tokens_splitOne_15
def b_Tokens_split_7 (N : Nat) : Nat → Nat → Nat → Int32 → Int32 → Cz → Option (Cz)
  | 0, _, _, _, _, _ => none
  | n + 1, x0, x1, x2, x3, κ => if x2 ≤ x3 then ck (isK κ x0 9) (bo (p_Tokens_add N x0 0 0 x2 κ) (fun κ3 => ck (isK κ3 x0 9) (lt (sfi x0 4 0 κ3) (fun κ6 => bo (fr κ6 x0 0) (fun o7 => ck (isK κ6 o7 20) (ck (inb (0 : Int32) (ln κ6 o7)) (lt (ai κ6 o7 (0 : Int32).toNatClampNeg) (fun v10 => lt (sfi x0 5 v10 κ6) (fun κ11 => bo (fr κ11 x0 1) (fun o12 => ck (isK κ11 o12 20) (ck (inb (0 : Int32) (ln κ11 o12)) (lt (ai κ11 o12 (0 : Int32).toNatClampNeg) (fun v15 => lt (sfi x0 6 v15 κ11) (fun κ16 => lt (sfi x0 7 0 κ16) (fun κ17 => some κ17))))))))))))))) else ck (isK κ x0 9) (bd (p_Tokens_splitOne N x0 x1 x2 x3 κ) (fun r18 κ18 => lt (if (x3 + 1) < r18 then r18 else (x3 + 1)) (fun v20 => b_Tokens_split_7 N n x0 x1 x2 v20 κ18)))
set_option maxHeartbeats 4000000 in
set_option maxRecDepth 100000 in
theorem t_Tokens_split_7 {p : Program} {l : Launch} {e : Env} {s : State} {m : MethodId} {args : Array Value} {below : List Frame} {meth : Method} {c : Code} {D : va_G} {θ : Tc} {A : Nat → Prop} {ad : Ad} (K : KE p s m args c c_Tokens_split 4 "ErrataRow$Tokens" y_Tokens_split none D θ A) (hN : NX s) (hX : SC ad A s s.heap) (hr : meth.sig.returnType = none) (hlk : meth.locks = false) (N : Nat) (ρ : Cz) : ∀ (n : Nat) (x0 : Nat) (x1 : Nat) (x2 : Int32) (x3 : Int32) (κ : Cz), b_Tokens_split_7 N n x0 x1 x2 x3 κ = some ρ → JE p l e (rmA 9 0 0) s m args below meth c D θ A 4 0 0 (QEv below args s D θ A 0 0 ρ) κ [(0, .ref x0), (1, .ref x1), (2, .int x2), (3, .int x3)] [] 7 := by
  intro n
  induction n with
  | zero =>
    intro x0 x1 x2 x3 κ h
    exact absurd h (by simp [b_Tokens_split_7])
  | succ n ih =>
    intro x0 x1 x2 x3 κ h
    rw [b_Tokens_split_7] at h
    refine j_iload_n K 3 d_Tokens_split_7 rfl rfl ?_
    refine j_iload_n K 2 d_Tokens_split_8 rfl rfl ?_
    refine j_icmp_ge (tgt := 29) K d_Tokens_split_9 (by decide) (fun q => ?_) (fun q => ?_)
    · have h := if_t h q
      refine j_aload_n K 0 d_Tokens_split_29 rfl rfl ?_
      refine j_iconst (v := 0) K d_Tokens_split_30 (by decide) ?_
      refine j_iconst (v := 0) K d_Tokens_split_31 (by decide) ?_
      refine j_iload_n K 2 d_Tokens_split_32 rfl rfl ?_
      obtain ⟨q4, h⟩ := ck_e h
      obtain ⟨κ3, e3, h⟩ := bo_e h
      refine ecallV_v K hN (c_Tokens_add_ok l D θ N x0 0 0 x2 κ _ e3) eG_Tokens_35 eh_Tokens_add (by decide) (rmA_ok (by decide) (by decide)) rfl q4 (by decide) rfl (st := []) (Nat.le_of_ble_eq_true rfl) rfl d_Tokens_split_33 ⟨Nat.le_of_ble_eq_true rfl, Nat.le_of_ble_eq_true rfl⟩ ?_
      refine j_aload_n K 0 d_Tokens_split_36 rfl rfl ?_
      refine j_iconst (v := 0) K d_Tokens_split_37 (by decide) ?_
      obtain ⟨q5, h⟩ := ck_e h
      obtain ⟨κ6, e6, h⟩ := lt_e h
      refine ep_Tokens_at K ef_Tokens_39 q5 d_Tokens_split_38 e6 ?_
      refine j_aload_n K 0 d_Tokens_split_41 rfl rfl ?_
      refine j_aload_n K 0 d_Tokens_split_42 rfl rfl ?_
      refine eg_Tokens_kinds K ef_Tokens_9 (isK_sfi e6 q5) d_Tokens_split_43 ?_
      obtain ⟨o7, e7, h⟩ := bo_e h
      refine j_eqq e7 ?_
      refine j_iconst (v := 0) K d_Tokens_split_46 (by decide) ?_
      obtain ⟨q8, h⟩ := ck_e h
      obtain ⟨q9, h⟩ := ck_e h
      refine e_iald K q8 (inb_e q9) d_Tokens_split_47 ?_
      obtain ⟨v10, e10, h⟩ := lt_e h
      refine j_eqi e10 ?_
      obtain ⟨κ11, e11, h⟩ := lt_e h
      refine ep_Tokens_kind K ef_Tokens_42 (isK_sfi e6 q5) d_Tokens_split_48 e11 ?_
      refine j_aload_n K 0 d_Tokens_split_51 rfl rfl ?_
      refine j_aload_n K 0 d_Tokens_split_52 rfl rfl ?_
      refine eg_Tokens_values K ef_Tokens_15 (isK_sfi e11 (isK_sfi e6 q5)) d_Tokens_split_53 ?_
      obtain ⟨o12, e12, h⟩ := bo_e h
      refine j_eqq e12 ?_
      refine j_iconst (v := 0) K d_Tokens_split_56 (by decide) ?_
      obtain ⟨q13, h⟩ := ck_e h
      obtain ⟨q14, h⟩ := ck_e h
      refine e_iald K q13 (inb_e q14) d_Tokens_split_57 ?_
      obtain ⟨v15, e15, h⟩ := lt_e h
      refine j_eqi e15 ?_
      obtain ⟨κ16, e16, h⟩ := lt_e h
      refine ep_Tokens_value K ef_Tokens_45 (isK_sfi e11 (isK_sfi e6 q5)) d_Tokens_split_58 e16 ?_
      refine j_aload_n K 0 d_Tokens_split_61 rfl rfl ?_
      refine j_iconst (v := 0) K d_Tokens_split_62 (by decide) ?_
      obtain ⟨κ17, e17, h⟩ := lt_e h
      refine ep_Tokens_fault K ef_Tokens_48 (isK_sfi e16 (isK_sfi e11 (isK_sfi e6 q5))) d_Tokens_split_63 e17 ?_
      exact eret_v K h hr hlk d_Tokens_split_66
    · have h := if_f h q
      refine j_iload_n K 3 d_Tokens_split_12 rfl rfl ?_
      refine j_iconst (v := 1) K d_Tokens_split_13 (by decide) ?_
      refine j_iadd K d_Tokens_split_14 ?_
      refine j_aload_n K 0 d_Tokens_split_15 rfl rfl ?_
      refine j_aload_n K 1 d_Tokens_split_16 rfl rfl ?_
      refine j_iload_n K 2 d_Tokens_split_17 rfl rfl ?_
      refine j_iload_n K 3 d_Tokens_split_18 rfl rfl ?_
      obtain ⟨q19, h⟩ := ck_e h
      obtain ⟨r18, κ18, e18, h⟩ := bd_e h
      refine scallV_i K hN hX (c_Tokens_splitOne_ok l D θ ad N x0 x1 x2 x3 κ _ e18) eG_Tokens_25 eh_Tokens_splitOne (rmA_ok (by decide) (by decide)) rfl q19 (by decide) rfl (st := [.int (x3 + 1)]) (Nat.le_of_ble_eq_true rfl) rfl d_Tokens_split_19 ⟨Nat.le_of_ble_eq_true rfl, Nat.le_of_ble_eq_true rfl⟩ ?_
      refine e_mmax K el_Tokens_29 es_mmax ei_Math ec_mmax (by decide) (Nat.le_of_ble_eq_true rfl) (Nat.le_of_ble_eq_true rfl) (Nat.le_of_ble_eq_true rfl) d_Tokens_split_22 ?_
      obtain ⟨v20, e20, h⟩ := lt_e h
      refine j_eqi e20 ?_
      refine j_istore_n (lv' := [(3, .int v20), (0, .ref x0), (1, .ref x1), (2, .int x2)]) K d_Tokens_split_25 rfl (by decide) rfl ?_
      refine j_goto (tgt := 7) K d_Tokens_split_26 (by decide) ?_
      refine j_sub [1, 2, 3, 0] rfl ?_
      exact ih x0 x1 x2 v20 κ18 h
def p_Tokens_split (N : Nat) (this : Nat) (a1 : Nat) (a2 : Int32) (κ : Cz) : Option (Cz) := ck (isK κ this 9) (lt (sfi this 3 0 κ) (fun κ2 => b_Tokens_split_7 N N this a1 a2 0 κ2))
set_option maxHeartbeats 4000000 in
set_option maxRecDepth 100000 in
theorem c_Tokens_split_ok (l : Launch) (D : va_G) (θ : Tc) (ad : Ad) (N : Nat) (this : Nat) (a1 : Nat) (a2 : Int32) (κ : Cz) (ρ : Cz) (h : p_Tokens_split N this a1 a2 κ = some ρ) : CSEv l D θ ad y_Tokens_split c_Tokens_split 4 none 9 [.ref this, .ref a1, .int a2] κ ρ := by
  intro sz
  refine sm_met l [.ref this, .ref a1, .int a2] (by decide +kernel) (Nat.le_of_ble_eq_true rfl) ?_
  intro p e s m args below meth c K hN hX hr hlk hnm hs
  generalize va_A (wE θ κ) sz = A at K hX ⊢
  have K : KE p s m args c c_Tokens_split 4 "ErrataRow$Tokens" y_Tokens_split none D θ A := K
  show JE p l e (rmA 9 0 0) s m args below meth c D θ A 4 0 0 (QEv below args s D θ A 0 0 ρ) κ [(0, .ref this), (1, .ref a1), (2, .int a2)] [] 0
  unfold p_Tokens_split at h
  refine j_aload_n K 0 d_Tokens_split_0 rfl rfl ?_
  refine j_iconst (v := 0) K d_Tokens_split_1 (by decide) ?_
  obtain ⟨q1, h⟩ := ck_e h
  obtain ⟨κ2, e2, h⟩ := lt_e h
  refine ep_Tokens_size K ef_Tokens_21 q1 d_Tokens_split_2 e2 ?_
  refine j_iconst (v := 0) K d_Tokens_split_5 (by decide) ?_
  refine j_istore_n (lv' := [(3, .int 0), (0, .ref this), (1, .ref a1), (2, .int a2)]) K d_Tokens_split_6 rfl (by decide) rfl ?_
  refine j_sub [1, 2, 3, 0] rfl ?_
  exact t_Tokens_split_7 K hN hX hr hlk N ρ N this a1 a2 0 κ2 h
def p_ErrataRow_book (N : Nat) (this : Nat) (κ : Cz) : Option (Int32 × Cz) := ck (isK κ this 11) (bo (fr κ this 2) (fun o2 => bo (fr κ this 0) (fun o3 => ck (isK κ o2 9) (bo (p_Tokens_split N o2 o3 (fi κ this 1) κ) (fun κ4 => ck (isK κ4 this 11) (lt (sfi this 1 0 κ4) (fun κ7 => bo (fr κ7 this 3) (fun o8 => ck (isK κ7 o8 1) (bd (p_BookReader_readBook N o8 κ7) (fun r9 κ9 => if r9 = 0 then ck (isK κ9 this 11) (bo (fr κ9 this 7) (fun o12 => bo (fr κ9 this 3) (fun o13 => ck (isK κ9 o13 1) (bo (fr κ9 o13 1) (fun o15 => ck (isK κ9 o12 10) (bo (p_World_open N o12 o15 κ9) (fun κ16 => ck (isK κ16 this 11) (bo (fr κ16 this 9) (fun o19 => ck (isK κ16 o19 2) (bo (p_History_forget N o19 κ16) (fun κ20 => ck (isK κ20 this 11) (bo (fr κ20 this 7) (fun o23 => ck (isK κ20 o23 10) (bo (fr κ20 o23 0) (fun o25 => ck (isK κ20 o25 0) (some (fi κ20 o25 2, κ20))))))))))))))))) else some ((-2) - r9, κ9)))))))))))
set_option maxHeartbeats 4000000 in
set_option maxRecDepth 100000 in
theorem c_ErrataRow_book_ok (l : Launch) (D : va_G) (θ : Tc) (ad : Ad) (N : Nat) (this : Nat) (κ : Cz) (ρ : Int32 × Cz) (h : p_ErrataRow_book N this κ = some ρ) : CSEi l D θ ad y_ErrataRow_book c_ErrataRow_book 2 (some .int) 10 [.ref this] κ ρ := by
  intro sz
  refine sm_met l [.ref this] (by decide +kernel) (Nat.le_of_ble_eq_true rfl) ?_
  intro p e s m args below meth c K hN hX hr hlk hnm hs
  generalize va_A (wE θ κ) sz = A at K hX ⊢
  have K : KE p s m args c c_ErrataRow_book 2 "ErrataRow" y_ErrataRow_book (some .int) D θ A := K
  show JE p l e (rmA 10 0 0) s m args below meth c D θ A 2 0 0 (QEi below args s D θ A 0 0 ρ) κ [(0, .ref this)] [] 0
  unfold p_ErrataRow_book at h
  refine j_aload_n K 0 d_ErrataRow_book_0 rfl rfl ?_
  obtain ⟨q1, h⟩ := ck_e h
  refine eg_ErrataRow_tokens K ef_ErrataRow_16 q1 d_ErrataRow_book_1 ?_
  obtain ⟨o2, e2, h⟩ := bo_e h
  refine j_eqq e2 ?_
  refine j_aload_n K 0 d_ErrataRow_book_4 rfl rfl ?_
  refine eg_ErrataRow_tape K ef_ErrataRow_9 q1 d_ErrataRow_book_5 ?_
  obtain ⟨o3, e3, h⟩ := bo_e h
  refine j_eqq e3 ?_
  refine j_aload_n K 0 d_ErrataRow_book_8 rfl rfl ?_
  refine eg_ErrataRow_tapeLength K ef_ErrataRow_98 q1 d_ErrataRow_book_9 ?_
  obtain ⟨q5, h⟩ := ck_e h
  obtain ⟨κ4, e4, h⟩ := bo_e h
  refine scallV_v K hN hX (c_Tokens_split_ok l D θ ad N o2 o3 (fi κ this 1) κ _ e4) eG_ErrataRow_106 eh_Tokens_split (rmA_ok (by decide) (by decide)) rfl q5 (by decide) rfl (st := []) (Nat.le_of_ble_eq_true rfl) rfl d_ErrataRow_book_12 ⟨Nat.le_of_ble_eq_true rfl, Nat.le_of_ble_eq_true rfl⟩ ?_
  refine j_aload_n K 0 d_ErrataRow_book_15 rfl rfl ?_
  refine j_iconst (v := 0) K d_ErrataRow_book_16 (by decide) ?_
  obtain ⟨q6, h⟩ := ck_e h
  obtain ⟨κ7, e7, h⟩ := lt_e h
  refine ep_ErrataRow_tapeLength K ef_ErrataRow_98 q6 d_ErrataRow_book_17 e7 ?_
  refine j_aload_n K 0 d_ErrataRow_book_20 rfl rfl ?_
  refine eg_ErrataRow_bookReader K ef_ErrataRow_25 (isK_sfi e7 q6) d_ErrataRow_book_21 ?_
  obtain ⟨o8, e8, h⟩ := bo_e h
  refine j_eqq e8 ?_
  obtain ⟨q10, h⟩ := ck_e h
  obtain ⟨r9, κ9, e9, h⟩ := bd_e h
  refine ecallV_i K hN (c_BookReader_readBook_ok l D θ N o8 κ7 _ e9) eG_ErrataRow_110 eh_BookReader_readBook (by decide) (rmA_ok (by decide) (by decide)) rfl q10 (by decide) rfl (st := []) (Nat.le_of_ble_eq_true rfl) rfl d_ErrataRow_book_24 ⟨Nat.le_of_ble_eq_true rfl, Nat.le_of_ble_eq_true rfl⟩ ?_
  refine j_istore_n (lv' := [(1, .int r9), (0, .ref this)]) K d_ErrataRow_book_27 rfl (by decide) rfl ?_
  refine j_iload_n K 0 d_ErrataRow_book_28 rfl rfl ?_
  refine j_if_eq (tgt := 37) K d_ErrataRow_book_29 (by decide) (fun q => ?_) (fun q => ?_)
  · have h := if_t h q
    refine j_aload_n K 1 d_ErrataRow_book_37 rfl rfl ?_
    obtain ⟨q11, h⟩ := ck_e h
    refine eg_ErrataRow_world K ef_ErrataRow_45 q11 d_ErrataRow_book_38 ?_
    obtain ⟨o12, e12, h⟩ := bo_e h
    refine j_eqq e12 ?_
    refine j_aload_n K 1 d_ErrataRow_book_41 rfl rfl ?_
    refine eg_ErrataRow_bookReader K ef_ErrataRow_25 q11 d_ErrataRow_book_42 ?_
    obtain ⟨o13, e13, h⟩ := bo_e h
    refine j_eqq e13 ?_
    obtain ⟨q14, h⟩ := ck_e h
    refine eg_BookReader_told K ef_ErrataRow_114 q14 d_ErrataRow_book_45 ?_
    obtain ⟨o15, e15, h⟩ := bo_e h
    refine j_eqq e15 ?_
    obtain ⟨q17, h⟩ := ck_e h
    obtain ⟨κ16, e16, h⟩ := bo_e h
    refine ecallV_v K hN (c_World_open_ok l D θ N o12 o15 κ9 _ e16) eG_ErrataRow_117 eh_World_open (by decide) (rmA_ok (by decide) (by decide)) rfl q17 (by decide) rfl (st := []) (Nat.le_of_ble_eq_true rfl) rfl d_ErrataRow_book_48 ⟨Nat.le_of_ble_eq_true rfl, Nat.le_of_ble_eq_true rfl⟩ ?_
    refine j_aload_n K 1 d_ErrataRow_book_51 rfl rfl ?_
    obtain ⟨q18, h⟩ := ck_e h
    refine eg_ErrataRow_history K ef_ErrataRow_56 q18 d_ErrataRow_book_52 ?_
    obtain ⟨o19, e19, h⟩ := bo_e h
    refine j_eqq e19 ?_
    obtain ⟨q21, h⟩ := ck_e h
    obtain ⟨κ20, e20, h⟩ := bo_e h
    refine ecallV_v K hN (c_History_forget_ok l D θ N o19 κ16 _ e20) eG_ErrataRow_120 eh_History_forget (by decide) (rmA_ok (by decide) (by decide)) rfl q21 (by decide) rfl (st := []) (Nat.le_of_ble_eq_true rfl) rfl d_ErrataRow_book_55 ⟨Nat.le_of_ble_eq_true rfl, Nat.le_of_ble_eq_true rfl⟩ ?_
    refine j_aload_n K 1 d_ErrataRow_book_58 rfl rfl ?_
    obtain ⟨q22, h⟩ := ck_e h
    refine eg_ErrataRow_world K ef_ErrataRow_45 q22 d_ErrataRow_book_59 ?_
    obtain ⟨o23, e23, h⟩ := bo_e h
    refine j_eqq e23 ?_
    obtain ⟨q24, h⟩ := ck_e h
    refine eg_World_book K ef_ErrataRow_62 q24 d_ErrataRow_book_62 ?_
    obtain ⟨o25, e25, h⟩ := bo_e h
    refine j_eqq e25 ?_
    obtain ⟨q26, h⟩ := ck_e h
    refine eg_Book_letters K ef_ErrataRow_123 q26 d_ErrataRow_book_65 ?_
    exact eret_i K h hr hlk d_ErrataRow_book_68
  · have h := if_f h q
    refine j_bipush (v := (-2)) K d_ErrataRow_book_32 (by decide) ?_
    refine j_iload_n K 0 d_ErrataRow_book_34 rfl rfl ?_
    refine j_isub K d_ErrataRow_book_35 ?_
    exact eret_i K h hr hlk d_ErrataRow_book_36
def w_ErrataRow_rule (N : Nat) (this : Nat) (κ : Cz) (post : Int32 → Cz → Prop) : Prop := wck (isK κ this 11) (wif ((fi κ this 6) < 6) (wbo (fr κ this 2) (fun o2 => wbo (fr κ this 0) (fun o3 => wck (isK κ o2 9) (wbo (p_Tokens_split N o2 o3 (fi κ this 1) κ) (fun κ4 => wck (isK κ4 this 11) (wlt (sfi this 1 0 κ4) (fun κ7 => wbo (fr κ7 this 4) (fun o8 => wck (isK κ7 o8 7) (wbd (p_RuleReader_readRule N o8 κ7) (fun r9 κ9 => wif (r9 = 0) (wck (isK κ9 this 11) (wbo (fr κ9 this 5) (fun o12 => wbo (fr κ9 this 4) (fun o13 => wck (isK κ9 o13 7) (w_RuleReader_made N o13 κ9 (fun r14 κ14 => wbo (r14) (fun o16 => wck (isK κ14 o12 22) (wck (isK κ14 o16 6) (wck (inb (fi κ9 this 6) (ln κ14 o12)) (wlt (saq o12 (va_up (aq κ14 o12) (fi κ9 this 6).toNatClampNeg (some o16)) κ14) (fun κ20 => wck (isK κ20 this 11) (wlt ((fi κ20 this 6) + 1) (fun v22 => wlt (sfi this 6 v22 κ20) (fun κ23 => post ((fi κ23 this 6) - 1) κ23)))))))))))))) (post ((-2) - r9) κ9))))))))))) (post (-1) κ))
set_option maxHeartbeats 8000000 in
set_option maxRecDepth 100000 in
theorem c_ErrataRow_rule_wp (l : Launch) (D : va_G) (θ : Tc) (ad : Ad) (N : Nat) (this : Nat) (κ : Cz) (post : Int32 → Cz → Prop) (h : w_ErrataRow_rule N this κ post) : CWSi l D θ ad y_ErrataRow_rule c_ErrataRow_rule 2 (some .int) 33 5 1608 [.ref this] κ post := by
  intro sz
  refine sm_met l [.ref this] (by decide +kernel) (Nat.le_of_ble_eq_true rfl) ?_
  intro p e s m args below meth c K hN hX hr hlk hnm hs
  generalize va_A (wE θ κ) sz = A at K hX ⊢
  have K : KE p s m args c c_ErrataRow_rule 2 "ErrataRow" y_ErrataRow_rule (some .int) D θ A := K
  show JE p l e (rmA 33 5 1608) s m args below meth c D θ A 2 0 0 (QWi below args s D θ A 5 1608 post) κ [(0, .ref this)] [] 0
  unfold w_ErrataRow_rule at h
  refine j_aload_n K 0 d_ErrataRow_rule_0 rfl rfl ?_
  obtain ⟨q1, h⟩ := wck_e h
  refine eg_ErrataRow_ruleCount K ef_ErrataRow_128 q1 d_ErrataRow_rule_1 ?_
  refine j_bipush (v := 6) K d_ErrataRow_rule_4 (by decide) ?_
  refine j_icmp_lt (tgt := 11) K d_ErrataRow_rule_6 (by decide) (fun q => ?_) (fun q => ?_)
  · have h := wif_t h q
    refine j_aload_n K 0 d_ErrataRow_rule_11 rfl rfl ?_
    refine eg_ErrataRow_tokens K ef_ErrataRow_16 q1 d_ErrataRow_rule_12 ?_
    obtain ⟨o2, e2, h⟩ := wbo_e h
    refine j_eqq e2 ?_
    refine j_aload_n K 0 d_ErrataRow_rule_15 rfl rfl ?_
    refine eg_ErrataRow_tape K ef_ErrataRow_9 q1 d_ErrataRow_rule_16 ?_
    obtain ⟨o3, e3, h⟩ := wbo_e h
    refine j_eqq e3 ?_
    refine j_aload_n K 0 d_ErrataRow_rule_19 rfl rfl ?_
    refine eg_ErrataRow_tapeLength K ef_ErrataRow_98 q1 d_ErrataRow_rule_20 ?_
    obtain ⟨q5, h⟩ := wck_e h
    obtain ⟨κ4, e4, h⟩ := wbo_e h
    refine scallV_v K hN hX (c_Tokens_split_ok l D θ ad N o2 o3 (fi κ this 1) κ _ e4) eG_ErrataRow_106 eh_Tokens_split (rmA_ok (by decide) (by decide)) rfl q5 (by decide) rfl (st := []) (Nat.le_of_ble_eq_true rfl) rfl d_ErrataRow_rule_23 ⟨Nat.le_of_ble_eq_true rfl, Nat.le_of_ble_eq_true rfl⟩ ?_
    refine j_aload_n K 0 d_ErrataRow_rule_26 rfl rfl ?_
    refine j_iconst (v := 0) K d_ErrataRow_rule_27 (by decide) ?_
    obtain ⟨q6, h⟩ := wck_e h
    obtain ⟨κ7, e7, h⟩ := wlt_e h
    refine ep_ErrataRow_tapeLength K ef_ErrataRow_98 q6 d_ErrataRow_rule_28 e7 ?_
    refine j_aload_n K 0 d_ErrataRow_rule_31 rfl rfl ?_
    refine eg_ErrataRow_ruleReader K ef_ErrataRow_32 (isK_sfi e7 q6) d_ErrataRow_rule_32 ?_
    obtain ⟨o8, e8, h⟩ := wbo_e h
    refine j_eqq e8 ?_
    obtain ⟨q10, h⟩ := wck_e h
    obtain ⟨r9, κ9, e9, h⟩ := wbd_e h
    refine ecallV_i K hN (c_RuleReader_readRule_ok l D θ N o8 κ7 _ e9) eG_ErrataRow_131 eh_RuleReader_readRule (by decide) (rmA_ok (by decide) (by decide)) rfl q10 (by decide) rfl (st := []) (Nat.le_of_ble_eq_true rfl) rfl d_ErrataRow_rule_35 ⟨Nat.le_of_ble_eq_true rfl, Nat.le_of_ble_eq_true rfl⟩ ?_
    refine j_istore_n (lv' := [(1, .int r9), (0, .ref this)]) K d_ErrataRow_rule_38 rfl (by decide) rfl ?_
    refine j_iload_n K 0 d_ErrataRow_rule_39 rfl rfl ?_
    refine j_if_eq (tgt := 48) K d_ErrataRow_rule_40 (by decide) (fun q => ?_) (fun q => ?_)
    · have h := wif_t h q
      refine j_aload_n K 1 d_ErrataRow_rule_48 rfl rfl ?_
      obtain ⟨q11, h⟩ := wck_e h
      refine eg_ErrataRow_rules K ef_ErrataRow_38 q11 d_ErrataRow_rule_49 ?_
      obtain ⟨o12, e12, h⟩ := wbo_e h
      refine j_eqq e12 ?_
      refine j_aload_n K 1 d_ErrataRow_rule_52 rfl rfl ?_
      refine eg_ErrataRow_ruleCount K ef_ErrataRow_128 q11 d_ErrataRow_rule_53 ?_
      refine j_aload_n K 1 d_ErrataRow_rule_56 rfl rfl ?_
      refine eg_ErrataRow_ruleReader K ef_ErrataRow_32 q11 d_ErrataRow_rule_57 ?_
      obtain ⟨o13, e13, h⟩ := wbo_e h
      refine j_eqq e13 ?_
      obtain ⟨q15, h⟩ := wck_e h
      refine wcallV_q K hN (c_RuleReader_made_wp l D θ N o13 κ9 _ h) eG_ErrataRow_134 eh_RuleReader_made (rmA_ok (by decide) (by decide)) rfl q15 (by decide) rfl (st := [.int (fi κ9 this 6), .ref o12]) (Nat.le_of_ble_eq_true rfl) rfl d_ErrataRow_rule_60 ⟨Nat.le_of_ble_eq_true rfl, Nat.le_of_ble_eq_true rfl⟩ ?_
      intro r14 κ14 h
      obtain ⟨o16, e16, h⟩ := wbo_e h
      refine j_eqq e16 ?_
      obtain ⟨q17, h⟩ := wck_e h
      obtain ⟨q18, h⟩ := wck_e h
      obtain ⟨q19, h⟩ := wck_e h
      obtain ⟨κ20, e20, h⟩ := wlt_e h
      refine e_ast_Rule K q17 q18 (inb_e q19) d_ErrataRow_rule_63 e20 ?_
      refine j_aload_n K 1 d_ErrataRow_rule_64 rfl rfl ?_
      refine j_dup K d_ErrataRow_rule_65 rfl ?_
      obtain ⟨q21, h⟩ := wck_e h
      refine eg_ErrataRow_ruleCount K ef_ErrataRow_128 q21 d_ErrataRow_rule_66 ?_
      refine j_iconst (v := 1) K d_ErrataRow_rule_69 (by decide) ?_
      refine j_iadd K d_ErrataRow_rule_70 ?_
      obtain ⟨v22, e22, h⟩ := wlt_e h
      refine j_eqi e22 ?_
      obtain ⟨κ23, e23, h⟩ := wlt_e h
      refine ep_ErrataRow_ruleCount K ef_ErrataRow_128 q21 d_ErrataRow_rule_71 e23 ?_
      refine j_aload_n K 1 d_ErrataRow_rule_74 rfl rfl ?_
      refine eg_ErrataRow_ruleCount K ef_ErrataRow_128 (isK_sfi e23 q21) d_ErrataRow_rule_75 ?_
      refine j_iconst (v := 1) K d_ErrataRow_rule_78 (by decide) ?_
      refine j_isub K d_ErrataRow_rule_79 ?_
      exact wret_i K h hr hlk d_ErrataRow_rule_80
    · have h := wif_f h q
      refine j_bipush (v := (-2)) K d_ErrataRow_rule_43 (by decide) ?_
      refine j_iload_n K 0 d_ErrataRow_rule_45 rfl rfl ?_
      refine j_isub K d_ErrataRow_rule_46 ?_
      refine e_widen (a := 5) (b := 1608) (by decide) (by decide) ?_
      exact wret_i K h hr hlk d_ErrataRow_rule_47
  · have h := wif_f h q
    refine j_iconst (v := (-1)) K d_ErrataRow_rule_9 (by decide) ?_
    refine e_widen (a := 5) (b := 1608) (by decide) (by decide) ?_
    exact wret_i K h hr hlk d_ErrataRow_rule_10
