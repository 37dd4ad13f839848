def p12_in (N : Nat) (a1 : Int64) (a2 : Int64) (a3 : Int64) : Option (Int32) := if (lg_cmp a1 a2) < 0 then some 0 else if 0 < (lg_cmp a1 a3) then some 0 else some 1
set_option maxHeartbeats 4000000 in
set_option maxRecDepth 100000 in
theorem c12_in_ok (l : Launch) (D : va_G) (θ : Th) (N : Nat) (a1 : Int64) (a2 : Int64) (a3 : Int64) (ρ : Int32) (h : p12_in N a1 a2 a3 = some ρ) : CSi l D θ y12_in c12_in 6 (some .boolean) 1 [.long a1, .long a2, .long a3] ρ := by
  intro sz
  refine j_met l [.long a1, .long a2, .long a3] (by decide +kernel) (Nat.le_of_ble_eq_true rfl) ?_
  intro p e s m args below meth c K hr hlk hnm hs
  generalize va_A ([] : va_W) sz = A at K ⊢
  have K : KM p s m args c c12_in 6 y12_in (some .boolean) D θ A := K
  show JS p l e s m args below meth c D θ A 1 6 (QSi below args s D θ A ρ) [(0, .long a1), (2, .long a2), (4, .long a3)] [] 0
  unfold p12_in at h
  refine j_lload_n K 0 d12_in_0 rfl rfl ?_
  refine j_lload_n K 1 d12_in_1 rfl rfl ?_
  refine j_lcmp K d12_in_2 ?_
  refine j_if_lt (tgt := 17) K d12_in_3 (by decide) (fun q => ?_) (fun q => ?_)
  · have h := if_t h q
    refine j_iconst (v := 0) K d12_in_17 (by decide) ?_
    exact sret_z K h rfl hr hlk d12_in_18
  · have h := if_f h q
    refine j_lload_n K 0 d12_in_6 rfl rfl ?_
    refine j_lload K 2 d12_in_7 rfl ?_
    refine j_lcmp K d12_in_9 ?_
    refine j_if_gt (tgt := 17) K d12_in_10 (by decide) (fun q => ?_) (fun q => ?_)
    · have h := if_t h q
      refine j_iconst (v := 0) K d12_in_17 (by decide) ?_
      exact sret_z K h rfl hr hlk d12_in_18
    · have h := if_f h q
      refine j_iconst (v := 1) K d12_in_13 (by decide) ?_
      refine j_goto (tgt := 18) K d12_in_14 (by decide) ?_
      exact sret_z K h rfl hr hlk d12_in_18
def p12_isOf (N : Nat) (a1 : Int32) (a2 : Int32) : Option (Int32) := if ((a1 >>> (a2 &&& 31)) &&& 1) = 1 then some 1 else some 0
set_option maxHeartbeats 4000000 in
set_option maxRecDepth 100000 in
theorem c12_isOf_ok (l : Launch) (D : va_G) (θ : Th) (N : Nat) (a1 : Int32) (a2 : Int32) (ρ : Int32) (h : p12_isOf N a1 a2 = some ρ) : CSi l D θ y12_isOf c12_isOf 2 (some .boolean) 1 [.int a1, .int a2] ρ := by
  intro sz
  refine j_met l [.int a1, .int a2] (by decide +kernel) (Nat.le_of_ble_eq_true rfl) ?_
  intro p e s m args below meth c K hr hlk hnm hs
  generalize va_A ([] : va_W) sz = A at K ⊢
  have K : KM p s m args c c12_isOf 2 y12_isOf (some .boolean) D θ A := K
  show JS p l e s m args below meth c D θ A 1 2 (QSi below args s D θ A ρ) [(0, .int a1), (1, .int a2)] [] 0
  unfold p12_isOf at h
  refine j_iload_n K 0 d12_isOf_0 rfl rfl ?_
  refine j_iload_n K 1 d12_isOf_1 rfl rfl ?_
  refine j_ishr K d12_isOf_2 ?_
  refine j_iconst (v := 1) K d12_isOf_3 (by decide) ?_
  refine j_iand K d12_isOf_4 ?_
  refine j_iconst (v := 1) K d12_isOf_5 (by decide) ?_
  refine j_icmp_ne (tgt := 13) K d12_isOf_6 (by decide) (fun q => ?_) (fun q => ?_)
  · have h := if_f h q
    refine j_iconst (v := 0) K d12_isOf_13 (by decide) ?_
    exact sret_z K h rfl hr hlk d12_isOf_14
  · have h := if_t h q
    refine j_iconst (v := 1) K d12_isOf_9 (by decide) ?_
    refine j_goto (tgt := 14) K d12_isOf_10 (by decide) ?_
    exact sret_z K h rfl hr hlk d12_isOf_14
def b12_bits_4 (N : Nat) : Nat → Int32 → Int32 → Option (Int32)
  | 0, _, _ => none
  | n + 1, x1, x2 => if x2 = 0 then some x1 else lt (x1 + 1) (fun v1 => lt (x2 &&& (x2 - 1)) (fun v2 => b12_bits_4 N n v1 v2))
set_option maxHeartbeats 4000000 in
set_option maxRecDepth 100000 in
theorem t12_bits_4 {p : Program} {l : Launch} {e : Env} {s : State} {m : MethodId} {args : Array Value} {below : List Frame} {meth : Method} {c : Code} {D : va_G} {θ : Th} {A : Nat → Prop} (K : KM p s m args c c12_bits 3 y12_bits (some .int) D θ A) (hr : meth.sig.returnType = (some .int)) (hlk : meth.locks = false) (N : Nat) (ρ : Int32) : ∀ (n : Nat) (x1 : Int32) (x2 : Int32), b12_bits_4 N n x1 x2 = some ρ → JS p l e s m args below meth c D θ A 1 3 (QSi below args s D θ A ρ) [(1, .int x1), (2, .int x2)] [] 4 := by
  intro n
  induction n with
  | zero =>
    intro x1 x2 h
    exact absurd h (by simp [b12_bits_4])
  | succ n ih =>
    intro x1 x2 h
    rw [b12_bits_4] at h
    refine j_iload_n K 1 d12_bits_4 rfl rfl ?_
    refine j_if_eq (tgt := 20) K d12_bits_5 (by decide) (fun q => ?_) (fun q => ?_)
    · have h := if_t h q
      refine j_iload_n K 0 d12_bits_20 rfl rfl ?_
      exact sret_i K h hr hlk d12_bits_21
    · have h := if_f h q
      obtain ⟨v1, e1, h⟩ := lt_e h
      refine j_iinc (k := 0) (v := v1) (lv' := [(1, .int v1), (2, .int x2)]) K d12_bits_8 rfl (by rw [e1]; rfl) (by decide) rfl ?_
      refine j_iload_n K 1 d12_bits_11 rfl rfl ?_
      refine j_iload_n K 1 d12_bits_12 rfl rfl ?_
      refine j_iconst (v := 1) K d12_bits_13 (by decide) ?_
      refine j_isub K d12_bits_14 ?_
      refine j_iand K d12_bits_15 ?_
      obtain ⟨v2, e2, h⟩ := lt_e h
      refine j_eqi e2 ?_
      refine j_istore_n (lv' := [(2, .int v2), (1, .int v1)]) K d12_bits_16 rfl (by decide) rfl ?_
      refine j_goto (tgt := 4) K d12_bits_17 (by decide) ?_
      refine j_sub [1, 0] rfl ?_
      exact ih v1 v2 h
def p12_bits (N : Nat) (a1 : Int32) : Option (Int32) := b12_bits_4 N N 0 a1
set_option maxHeartbeats 4000000 in
set_option maxRecDepth 100000 in
theorem c12_bits_ok (l : Launch) (D : va_G) (θ : Th) (N : Nat) (a1 : Int32) (ρ : Int32) (h : p12_bits N a1 = some ρ) : CSi l D θ y12_bits c12_bits 3 (some .int) 1 [.int a1] ρ := by
  intro sz
  refine j_met l [.int a1] (by decide +kernel) (Nat.le_of_ble_eq_true rfl) ?_
  intro p e s m args below meth c K hr hlk hnm hs
  generalize va_A ([] : va_W) sz = A at K ⊢
  have K : KM p s m args c c12_bits 3 y12_bits (some .int) D θ A := K
  show JS p l e s m args below meth c D θ A 1 3 (QSi below args s D θ A ρ) [(0, .int a1)] [] 0
  unfold p12_bits at h
  refine j_iconst (v := 0) K d12_bits_0 (by decide) ?_
  refine j_istore_n (lv' := [(1, .int 0), (0, .int a1)]) K d12_bits_1 rfl (by decide) rfl ?_
  refine j_iload_n K 1 d12_bits_2 rfl rfl ?_
  refine j_istore_n (lv' := [(2, .int a1), (1, .int 0), (0, .int a1)]) K d12_bits_3 rfl (by decide) rfl ?_
  refine j_sub [1, 0] rfl ?_
  exact t12_bits_4 K hr hlk N ρ N 0 a1 h
def b12_four_3 (N : Nat) : Nat → Int32 → Int32 → Mz → Option (Mz)
  | 0, _, _, _ => none
  | n + 1, x1, x2, μ => if x2 < 0 then some μ else lt ((x1 >>> (x2 &&& 31)).toInt8.toInt32) (fun v1 => ck (inb (gi 0 μ) 400) (lt (sa 0 (upd (ga 0 μ) (gi 0 μ).toNatClampNeg (vp_nar .byte v1)) μ) (fun μ3 => lt (si 0 ((gi 0 μ3) + 1) μ3) (fun μ4 => lt (x2 + (-8)) (fun v5 => b12_four_3 N n x1 v5 μ4)))))
set_option maxHeartbeats 4000000 in
set_option maxRecDepth 100000 in
theorem t12_four_3 {p : Program} {l : Launch} {e : Env} {s : State} {m : MethodId} {args : Array Value} {below : List Frame} {meth : Method} {c : Code} {D : va_G} {θ : Th} {A : Nat → Prop} (K : KM p s m args c c12_four 3 y12_four none D θ A) (hr : meth.sig.returnType = none) (hlk : meth.locks = false) (N : Nat) (ρ : Mz) : ∀ (n : Nat) (x1 : Int32) (x2 : Int32) (μ : Mz), b12_four_3 N n x1 x2 μ = some ρ → JM p l e s m args below meth c D θ A 1 3 (QMv below args s D θ A ρ) μ [(0, .ref θ.1), (1, .int x1), (2, .int x2)] [] 3 := by
  intro n
  induction n with
  | zero =>
    intro x1 x2 μ h
    exact absurd h (by simp [b12_four_3])
  | succ n ih =>
    intro x1 x2 μ h
    rw [b12_four_3] at h
    refine j_iload_n K 2 d12_four_3 rfl rfl ?_
    refine j_if_lt (tgt := 36) K d12_four_4 (by decide) (fun q => ?_) (fun q => ?_)
    · have h := if_t h q
      exact mret_v K h hr hlk d12_four_36
    · have h := if_f h q
      refine j_aload_n K 0 d12_four_7 rfl rfl ?_
      refine mg_tape K d12_four_8 ?_
      refine j_aload_n K 0 d12_four_11 rfl rfl ?_
      refine mg_taped K d12_four_12 ?_
      refine j_iload_n K 1 d12_four_15 rfl rfl ?_
      refine j_iload_n K 2 d12_four_16 rfl rfl ?_
      refine j_ishr K d12_four_17 ?_
      refine j_i2b K d12_four_18 ?_
      obtain ⟨v1, e1, h⟩ := lt_e h
      refine j_eqi e1 ?_
      obtain ⟨q2, h⟩ := ck_e h
      obtain ⟨μ3, e3, h⟩ := lt_e h
      refine ms_tape K (inb_e q2) d12_four_19 e3 ?_
      refine j_aload_n K 0 d12_four_20 rfl rfl ?_
      refine j_dup K d12_four_21 rfl ?_
      refine mg_taped K d12_four_22 ?_
      refine j_iconst (v := 1) K d12_four_25 (by decide) ?_
      refine j_iadd K d12_four_26 ?_
      obtain ⟨μ4, e4, h⟩ := lt_e h
      refine mp_taped K d12_four_27 e4 ?_
      obtain ⟨v5, e5, h⟩ := lt_e h
      refine j_iinc (k := 2) (v := v5) (lv' := [(2, .int v5), (0, .ref θ.1), (1, .int x1)]) K d12_four_30 rfl (by rw [e5]; rfl) (by decide) rfl ?_
      refine j_goto (tgt := 3) K d12_four_33 (by decide) ?_
      refine j_sub [1, 2, 0] rfl ?_
      exact ih x1 v5 μ4 h
def p12_four (N : Nat) (a1 : Int32) (μ : Mz) : Option (Mz) := b12_four_3 N N a1 24 μ
set_option maxHeartbeats 4000000 in
set_option maxRecDepth 100000 in
theorem c12_four_ok (l : Launch) (D : va_G) (θ : Th) (N : Nat) (a1 : Int32) (μ : Mz) (ρ : Mz) (h : p12_four N a1 μ = some ρ) : CMv l D θ y12_four c12_four 3 none 1 [.int a1] μ ρ := by
  intro sz
  refine j_met l [.ref θ.1, .int a1] (by decide +kernel) (Nat.le_of_ble_eq_true rfl) ?_
  intro p e s m args below meth c K hr hlk hnm hs
  generalize va_A (wM θ μ) sz = A at K ⊢
  have K : KM p s m args c c12_four 3 y12_four none D θ A := K
  show JM p l e s m args below meth c D θ A 1 3 (QMv below args s D θ A ρ) μ [(0, .ref θ.1), (1, .int a1)] [] 0
  unfold p12_four at h
  refine j_bipush (v := 24) K d12_four_0 (by decide) ?_
  refine j_istore_n (lv' := [(2, .int 24), (0, .ref θ.1), (1, .int a1)]) K d12_four_2 rfl (by decide) rfl ?_
  refine j_sub [1, 2, 0] rfl ?_
  exact t12_four_3 K hr hlk N ρ N a1 24 μ h
def p12_end (N : Nat) (a1 : Int32) (μ : Mz) : Option (Int32 × Mz) := if a1 < 0 then some ((-1), μ) else if a1 ≤ (gi 0 μ) then lt (si 0 a1 μ) (fun μ1 => some (a1, μ1)) else some ((-1), μ)
set_option maxHeartbeats 4000000 in
set_option maxRecDepth 100000 in
theorem c12_end_ok (l : Launch) (D : va_G) (θ : Th) (N : Nat) (a1 : Int32) (μ : Mz) (ρ : Int32 × Mz) (h : p12_end N a1 μ = some ρ) : CMi l D θ y12_end c12_end 2 (some .int) 1 [.int a1] μ ρ := by
  intro sz
  refine j_met l [.ref θ.1, .int a1] (by decide +kernel) (Nat.le_of_ble_eq_true rfl) ?_
  intro p e s m args below meth c K hr hlk hnm hs
  generalize va_A (wM θ μ) sz = A at K ⊢
  have K : KM p s m args c c12_end 2 y12_end (some .int) D θ A := K
  show JM p l e s m args below meth c D θ A 1 2 (QMi below args s D θ A ρ) μ [(0, .ref θ.1), (1, .int a1)] [] 0
  unfold p12_end at h
  refine j_iload_n K 1 d12_end_0 rfl rfl ?_
  refine j_if_lt (tgt := 12) K d12_end_1 (by decide) (fun q => ?_) (fun q => ?_)
  · have h := if_t h q
    refine j_iconst (v := (-1)) K d12_end_12 (by decide) ?_
    exact mret_i K h hr hlk d12_end_13
  · have h := if_f h q
    refine j_iload_n K 1 d12_end_4 rfl rfl ?_
    refine j_aload_n K 0 d12_end_5 rfl rfl ?_
    refine mg_taped K d12_end_6 ?_
    refine j_icmp_le (tgt := 14) K d12_end_9 (by decide) (fun q => ?_) (fun q => ?_)
    · have h := if_t h q
      refine j_aload_n K 0 d12_end_14 rfl rfl ?_
      refine j_iload_n K 1 d12_end_15 rfl rfl ?_
      obtain ⟨μ1, e1, h⟩ := lt_e h
      refine mp_taped K d12_end_16 e1 ?_
      refine j_iload_n K 1 d12_end_19 rfl rfl ?_
      exact mret_i K h hr hlk d12_end_20
    · have h := if_f h q
      refine j_iconst (v := (-1)) K d12_end_12 (by decide) ?_
      exact mret_i K h hr hlk d12_end_13
def p12_fails (N : Nat) (a1 : Int32) (a2 : Int32) (μ : Mz) : Option (Int32 × Mz) := if (gi 3 μ) = 0 then lt (si 3 ((1 + (8 * a2)) + a1) μ) (fun μ1 => some (0, μ1)) else some (0, μ)
set_option maxHeartbeats 4000000 in
set_option maxRecDepth 100000 in
theorem c12_fails_ok (l : Launch) (D : va_G) (θ : Th) (N : Nat) (a1 : Int32) (a2 : Int32) (μ : Mz) (ρ : Int32 × Mz) (h : p12_fails N a1 a2 μ = some ρ) : CMi l D θ y12_fails c12_fails 3 (some .boolean) 1 [.int a1, .int a2] μ ρ := by
  intro sz
  refine j_met l [.ref θ.1, .int a1, .int a2] (by decide +kernel) (Nat.le_of_ble_eq_true rfl) ?_
  intro p e s m args below meth c K hr hlk hnm hs
  generalize va_A (wM θ μ) sz = A at K ⊢
  have K : KM p s m args c c12_fails 3 y12_fails (some .boolean) D θ A := K
  show JM p l e s m args below meth c D θ A 1 3 (QMi below args s D θ A ρ) μ [(0, .ref θ.1), (1, .int a1), (2, .int a2)] [] 0
  unfold p12_fails at h
  refine j_aload_n K 0 d12_fails_0 rfl rfl ?_
  refine mg_wrong K d12_fails_1 ?_
  refine j_if_ne (tgt := 19) K d12_fails_4 (by decide) (fun q => ?_) (fun q => ?_)
  · have h := if_f h q
    refine j_iconst (v := 0) K d12_fails_19 (by decide) ?_
    exact mret_z K h rfl hr hlk d12_fails_20
  · have h := if_t h q
    refine j_aload_n K 0 d12_fails_7 rfl rfl ?_
    refine j_iconst (v := 1) K d12_fails_8 (by decide) ?_
    refine j_bipush (v := 8) K d12_fails_9 (by decide) ?_
    refine j_iload_n K 2 d12_fails_11 rfl rfl ?_
    refine j_imul K d12_fails_12 ?_
    refine j_iadd K d12_fails_13 ?_
    refine j_iload_n K 1 d12_fails_14 rfl rfl ?_
    refine j_iadd K d12_fails_15 ?_
    obtain ⟨μ1, e1, h⟩ := lt_e h
    refine mp_wrong K d12_fails_16 e1 ?_
    refine j_iconst (v := 0) K d12_fails_19 (by decide) ?_
    exact mret_z K h rfl hr hlk d12_fails_20
def b12_see_38 (N : Nat)  (μ : Mz) : Option (Int32 × Mz) := if (gi 0 μ) ≤ (gi 2 μ) then some ((-1), μ) else lt (gi 2 μ) (fun v1 => ck (inb v1 400) (some ((ga 0 μ v1.toNatClampNeg) &&& 255, μ)))
set_option maxHeartbeats 4000000 in
set_option maxRecDepth 100000 in
theorem t12_see_38 {p : Program} {l : Launch} {e : Env} {s : State} {m : MethodId} {args : Array Value} {below : List Frame} {meth : Method} {c : Code} {D : va_G} {θ : Th} {A : Nat → Prop} (K : KM p s m args c c12_see 1 y12_see (some .int) D θ A) (hr : meth.sig.returnType = (some .int)) (hlk : meth.locks = false) (N : Nat) (ρ : Int32 × Mz)  (μ : Mz) (h : b12_see_38 N  μ = some ρ) : JM p l e s m args below meth c D θ A 1 1 (QMi below args s D θ A ρ) μ [(0, .ref θ.1)] [] 38 := by
  unfold b12_see_38 at h
  refine j_aload_n K 0 d12_see_38 rfl rfl ?_
  refine mg_next K d12_see_39 ?_
  refine j_aload_n K 0 d12_see_42 rfl rfl ?_
  refine mg_taped K d12_see_43 ?_
  refine j_icmp_ge (tgt := 65) K d12_see_46 (by decide) (fun q => ?_) (fun q => ?_)
  · have h := if_t h q
    refine j_iconst (v := (-1)) K d12_see_65 (by decide) ?_
    exact mret_i K h hr hlk d12_see_66
  · have h := if_f h q
    refine j_aload_n K 0 d12_see_49 rfl rfl ?_
    refine mg_tape K d12_see_50 ?_
    refine j_aload_n K 0 d12_see_53 rfl rfl ?_
    refine mg_next K d12_see_54 ?_
    obtain ⟨v1, e1, h⟩ := lt_e h
    refine j_eqi e1 ?_
    obtain ⟨q2, h⟩ := ck_e h
    refine ml_tape K (inb_e q2) d12_see_57 ?_
    refine j_sipush (v := 255) K d12_see_58 (by decide) ?_
    refine j_iand K d12_see_61 ?_
    refine j_goto (tgt := 66) K d12_see_62 (by decide) ?_
    exact mret_i K h hr hlk d12_see_66
def b12_see_0 (N : Nat) : Nat → Mz → Option (Int32 × Mz)
  | 0, _ => none
  | n + 1, μ => if (gi 0 μ) ≤ (gi 2 μ) then b12_see_38 N μ else lt (gi 2 μ) (fun v3 => ck (inb v3 400) (if (ga 0 μ v3.toNatClampNeg) = 32 then lt (si 2 ((gi 2 μ) + 1) μ) (fun μ5 => b12_see_0 N n  μ5) else b12_see_38 N μ))
set_option maxHeartbeats 4000000 in
set_option maxRecDepth 100000 in
theorem t12_see_0 {p : Program} {l : Launch} {e : Env} {s : State} {m : MethodId} {args : Array Value} {below : List Frame} {meth : Method} {c : Code} {D : va_G} {θ : Th} {A : Nat → Prop} (K : KM p s m args c c12_see 1 y12_see (some .int) D θ A) (hr : meth.sig.returnType = (some .int)) (hlk : meth.locks = false) (N : Nat) (ρ : Int32 × Mz) : ∀ (n : Nat)  (μ : Mz), b12_see_0 N n  μ = some ρ → JM p l e s m args below meth c D θ A 1 1 (QMi below args s D θ A ρ) μ [(0, .ref θ.1)] [] 0 := by
  intro n
  induction n with
  | zero =>
    intro μ h
    exact absurd h (by simp [b12_see_0])
  | succ n ih =>
    intro μ h
    rw [b12_see_0] at h
    refine j_aload_n K 0 d12_see_0 rfl rfl ?_
    refine mg_next K d12_see_1 ?_
    refine j_aload_n K 0 d12_see_4 rfl rfl ?_
    refine mg_taped K d12_see_5 ?_
    refine j_icmp_ge (tgt := 38) K d12_see_8 (by decide) (fun q => ?_) (fun q => ?_)
    · have h := if_t h q
      exact t12_see_38 K hr hlk N ρ  μ h
    · have h := if_f h q
      refine j_aload_n K 0 d12_see_11 rfl rfl ?_
      refine mg_tape K d12_see_12 ?_
      refine j_aload_n K 0 d12_see_15 rfl rfl ?_
      refine mg_next K d12_see_16 ?_
      obtain ⟨v3, e3, h⟩ := lt_e h
      refine j_eqi e3 ?_
      obtain ⟨q4, h⟩ := ck_e h
      refine ml_tape K (inb_e q4) d12_see_19 ?_
      refine j_bipush (v := 32) K d12_see_20 (by decide) ?_
      refine j_icmp_ne (tgt := 38) K d12_see_22 (by decide) (fun q => ?_) (fun q => ?_)
      · have h := if_f h q
        exact t12_see_38 K hr hlk N ρ  μ h
      · have h := if_t h q
        refine j_aload_n K 0 d12_see_25 rfl rfl ?_
        refine j_dup K d12_see_26 rfl ?_
        refine mg_next K d12_see_27 ?_
        refine j_iconst (v := 1) K d12_see_30 (by decide) ?_
        refine j_iadd K d12_see_31 ?_
        obtain ⟨μ5, e5, h⟩ := lt_e h
        refine mp_next K d12_see_32 e5 ?_
        refine j_goto (tgt := 0) K d12_see_35 (by decide) ?_
        exact ih  μ5 h
def p12_see (N : Nat)  (μ : Mz) : Option (Int32 × Mz) := b12_see_0 N N μ
set_option maxHeartbeats 4000000 in
set_option maxRecDepth 100000 in
theorem c12_see_ok (l : Launch) (D : va_G) (θ : Th) (N : Nat)  (μ : Mz) (ρ : Int32 × Mz) (h : p12_see N  μ = some ρ) : CMi l D θ y12_see c12_see 1 (some .int) 1 [] μ ρ := by
  intro sz
  refine j_met l [.ref θ.1] (by decide +kernel) (Nat.le_of_ble_eq_true rfl) ?_
  intro p e s m args below meth c K hr hlk hnm hs
  generalize va_A (wM θ μ) sz = A at K ⊢
  have K : KM p s m args c c12_see 1 y12_see (some .int) D θ A := K
  show JM p l e s m args below meth c D θ A 1 1 (QMi below args s D θ A ρ) μ [(0, .ref θ.1)] [] 0
  unfold p12_see at h
  exact t12_see_0 K hr hlk N ρ N  μ h
def p12_isDigit (N : Nat) (a1 : Int32) (μ : Mz) : Option (Int32 × Mz) := if (gi 0 μ) ≤ a1 then some (0, μ) else ck (inb a1 400) (if (ga 0 μ a1.toNatClampNeg) < 48 then some (0, μ) else ck (inb a1 400) (if 57 < (ga 0 μ a1.toNatClampNeg) then some (0, μ) else some (1, μ)))
set_option maxHeartbeats 4000000 in
set_option maxRecDepth 100000 in
theorem c12_isDigit_ok (l : Launch) (D : va_G) (θ : Th) (N : Nat) (a1 : Int32) (μ : Mz) (ρ : Int32 × Mz) (h : p12_isDigit N a1 μ = some ρ) : CMi l D θ y12_isDigit c12_isDigit 2 (some .boolean) 1 [.int a1] μ ρ := by
  intro sz
  refine j_met l [.ref θ.1, .int a1] (by decide +kernel) (Nat.le_of_ble_eq_true rfl) ?_
  intro p e s m args below meth c K hr hlk hnm hs
  generalize va_A (wM θ μ) sz = A at K ⊢
  have K : KM p s m args c c12_isDigit 2 y12_isDigit (some .boolean) D θ A := K
  show JM p l e s m args below meth c D θ A 1 2 (QMi below args s D θ A ρ) μ [(0, .ref θ.1), (1, .int a1)] [] 0
  unfold p12_isDigit at h
  refine j_iload_n K 1 d12_isDigit_0 rfl rfl ?_
  refine j_aload_n K 0 d12_isDigit_1 rfl rfl ?_
  refine mg_taped K d12_isDigit_2 ?_
  refine j_icmp_ge (tgt := 34) K d12_isDigit_5 (by decide) (fun q => ?_) (fun q => ?_)
  · have h := if_t h q
    refine j_iconst (v := 0) K d12_isDigit_34 (by decide) ?_
    exact mret_z K h rfl hr hlk d12_isDigit_35
  · have h := if_f h q
    refine j_aload_n K 0 d12_isDigit_8 rfl rfl ?_
    refine mg_tape K d12_isDigit_9 ?_
    refine j_iload_n K 1 d12_isDigit_12 rfl rfl ?_
    obtain ⟨q1, h⟩ := ck_e h
    refine ml_tape K (inb_e q1) d12_isDigit_13 ?_
    refine j_bipush (v := 48) K d12_isDigit_14 (by decide) ?_
    refine j_icmp_lt (tgt := 34) K d12_isDigit_16 (by decide) (fun q => ?_) (fun q => ?_)
    · have h := if_t h q
      refine j_iconst (v := 0) K d12_isDigit_34 (by decide) ?_
      exact mret_z K h rfl hr hlk d12_isDigit_35
    · have h := if_f h q
      refine j_aload_n K 0 d12_isDigit_19 rfl rfl ?_
      refine mg_tape K d12_isDigit_20 ?_
      refine j_iload_n K 1 d12_isDigit_23 rfl rfl ?_
      obtain ⟨q2, h⟩ := ck_e h
      refine ml_tape K (inb_e q2) d12_isDigit_24 ?_
      refine j_bipush (v := 57) K d12_isDigit_25 (by decide) ?_
      refine j_icmp_gt (tgt := 34) K d12_isDigit_27 (by decide) (fun q => ?_) (fun q => ?_)
      · have h := if_t h q
        refine j_iconst (v := 0) K d12_isDigit_34 (by decide) ?_
        exact mret_z K h rfl hr hlk d12_isDigit_35
      · have h := if_f h q
        refine j_iconst (v := 1) K d12_isDigit_30 (by decide) ?_
        refine j_goto (tgt := 35) K d12_isDigit_31 (by decide) ?_
        exact mret_z K h rfl hr hlk d12_isDigit_35
def p12_isLetter (N : Nat) (a1 : Int32) (μ : Mz) : Option (Int32 × Mz) := if (gi 0 μ) ≤ a1 then some (0, μ) else ck (inb a1 400) (if (ga 0 μ a1.toNatClampNeg) < 97 then some (0, μ) else ck (inb a1 400) (if 122 < (ga 0 μ a1.toNatClampNeg) then some (0, μ) else some (1, μ)))
set_option maxHeartbeats 4000000 in
set_option maxRecDepth 100000 in
theorem c12_isLetter_ok (l : Launch) (D : va_G) (θ : Th) (N : Nat) (a1 : Int32) (μ : Mz) (ρ : Int32 × Mz) (h : p12_isLetter N a1 μ = some ρ) : CMi l D θ y12_isLetter c12_isLetter 2 (some .boolean) 1 [.int a1] μ ρ := by
  intro sz
  refine j_met l [.ref θ.1, .int a1] (by decide +kernel) (Nat.le_of_ble_eq_true rfl) ?_
  intro p e s m args below meth c K hr hlk hnm hs
  generalize va_A (wM θ μ) sz = A at K ⊢
  have K : KM p s m args c c12_isLetter 2 y12_isLetter (some .boolean) D θ A := K
  show JM p l e s m args below meth c D θ A 1 2 (QMi below args s D θ A ρ) μ [(0, .ref θ.1), (1, .int a1)] [] 0
  unfold p12_isLetter at h
  refine j_iload_n K 1 d12_isLetter_0 rfl rfl ?_
  refine j_aload_n K 0 d12_isLetter_1 rfl rfl ?_
  refine mg_taped K d12_isLetter_2 ?_
  refine j_icmp_ge (tgt := 34) K d12_isLetter_5 (by decide) (fun q => ?_) (fun q => ?_)
  · have h := if_t h q
    refine j_iconst (v := 0) K d12_isLetter_34 (by decide) ?_
    exact mret_z K h rfl hr hlk d12_isLetter_35
  · have h := if_f h q
    refine j_aload_n K 0 d12_isLetter_8 rfl rfl ?_
    refine mg_tape K d12_isLetter_9 ?_
    refine j_iload_n K 1 d12_isLetter_12 rfl rfl ?_
    obtain ⟨q1, h⟩ := ck_e h
    refine ml_tape K (inb_e q1) d12_isLetter_13 ?_
    refine j_bipush (v := 97) K d12_isLetter_14 (by decide) ?_
    refine j_icmp_lt (tgt := 34) K d12_isLetter_16 (by decide) (fun q => ?_) (fun q => ?_)
    · have h := if_t h q
      refine j_iconst (v := 0) K d12_isLetter_34 (by decide) ?_
      exact mret_z K h rfl hr hlk d12_isLetter_35
    · have h := if_f h q
      refine j_aload_n K 0 d12_isLetter_19 rfl rfl ?_
      refine mg_tape K d12_isLetter_20 ?_
      refine j_iload_n K 1 d12_isLetter_23 rfl rfl ?_
      obtain ⟨q2, h⟩ := ck_e h
      refine ml_tape K (inb_e q2) d12_isLetter_24 ?_
      refine j_bipush (v := 122) K d12_isLetter_25 (by decide) ?_
      refine j_icmp_gt (tgt := 34) K d12_isLetter_27 (by decide) (fun q => ?_) (fun q => ?_)
      · have h := if_t h q
        refine j_iconst (v := 0) K d12_isLetter_34 (by decide) ?_
        exact mret_z K h rfl hr hlk d12_isLetter_35
      · have h := if_f h q
        refine j_iconst (v := 1) K d12_isLetter_30 (by decide) ?_
        refine j_goto (tgt := 35) K d12_isLetter_31 (by decide) ?_
        exact mret_z K h rfl hr hlk d12_isLetter_35
def p12_puts (N : Nat) (a1 : Int32) (a2 : Int32) (μ : Mz) : Option (Mz) := lt (gi 5 μ) (fun v1 => ck (inb v1 7) (lt (a1 + (16 * a2)) (fun v3 => ck (inb ((400 * (gi 5 μ)) + (ga 2 μ v1.toNatClampNeg)) 2400) (lt (sa 1 (upd (ga 1 μ) ((400 * (gi 5 μ)) + (ga 2 μ v1.toNatClampNeg)).toNatClampNeg v3) μ) (fun μ5 => lt (gi 5 μ5) (fun v6 => ck (inb v6 7) (lt ((ga 2 μ5 v6.toNatClampNeg) + 1) (fun v8 => ck (inb v6 7) (lt (sa 2 (upd (ga 2 μ5) v6.toNatClampNeg v8) μ5) (fun μ10 => some μ10))))))))))
set_option maxHeartbeats 4000000 in
set_option maxRecDepth 100000 in
theorem c12_puts_ok (l : Launch) (D : va_G) (θ : Th) (N : Nat) (a1 : Int32) (a2 : Int32) (μ : Mz) (ρ : Mz) (h : p12_puts N a1 a2 μ = some ρ) : CMv l D θ y12_puts c12_puts 3 none 1 [.int a1, .int a2] μ ρ := by
  intro sz
  refine j_met l [.ref θ.1, .int a1, .int a2] (by decide +kernel) (Nat.le_of_ble_eq_true rfl) ?_
  intro p e s m args below meth c K hr hlk hnm hs
  generalize va_A (wM θ μ) sz = A at K ⊢
  have K : KM p s m args c c12_puts 3 y12_puts none D θ A := K
  show JM p l e s m args below meth c D θ A 1 3 (QMv below args s D θ A ρ) μ [(0, .ref θ.1), (1, .int a1), (2, .int a2)] [] 0
  unfold p12_puts at h
  refine j_aload_n K 0 d12_puts_0 rfl rfl ?_
  refine mg_sign K d12_puts_1 ?_
  refine j_sipush (v := 400) K d12_puts_4 (by decide) ?_
  refine j_aload_n K 0 d12_puts_7 rfl rfl ?_
  refine mg_text K d12_puts_8 ?_
  refine j_imul K d12_puts_11 ?_
  refine j_aload_n K 0 d12_puts_12 rfl rfl ?_
  refine mg_length K d12_puts_13 ?_
  refine j_aload_n K 0 d12_puts_16 rfl rfl ?_
  refine mg_text K d12_puts_17 ?_
  obtain ⟨v1, e1, h⟩ := lt_e h
  refine j_eqi e1 ?_
  obtain ⟨q2, h⟩ := ck_e h
  refine ml_length K (inb_e q2) d12_puts_20 ?_
  refine j_iadd K d12_puts_21 ?_
  refine j_iload_n K 1 d12_puts_22 rfl rfl ?_
  refine j_bipush (v := 16) K d12_puts_23 (by decide) ?_
  refine j_iload_n K 2 d12_puts_25 rfl rfl ?_
  refine j_imul K d12_puts_26 ?_
  refine j_iadd K d12_puts_27 ?_
  obtain ⟨v3, e3, h⟩ := lt_e h
  refine j_eqi e3 ?_
  obtain ⟨q4, h⟩ := ck_e h
  obtain ⟨μ5, e5, h⟩ := lt_e h
  refine ms_sign K (inb_e q4) d12_puts_28 e5 ?_
  refine j_aload_n K 0 d12_puts_29 rfl rfl ?_
  refine mg_length K d12_puts_30 ?_
  refine j_aload_n K 0 d12_puts_33 rfl rfl ?_
  refine mg_text K d12_puts_34 ?_
  obtain ⟨v6, e6, h⟩ := lt_e h
  refine j_eqi e6 ?_
  refine j_dup2 K d12_puts_37 rfl rfl ?_
  obtain ⟨q7, h⟩ := ck_e h
  refine ml_length K (inb_e q7) d12_puts_38 ?_
  refine j_iconst (v := 1) K d12_puts_39 (by decide) ?_
  refine j_iadd K d12_puts_40 ?_
  obtain ⟨v8, e8, h⟩ := lt_e h
  refine j_eqi e8 ?_
  obtain ⟨q9, h⟩ := ck_e h
  obtain ⟨μ10, e10, h⟩ := lt_e h
  refine ms_length K (inb_e q9) d12_puts_41 e10 ?_
  exact mret_v K h hr hlk d12_puts_42
def p12_strength (N : Nat) (a1 : Int32) : Option (Int32) := if a1 = 13 then some 1 else if a1 = 12 then some 2 else if a1 = 11 then some 3 else some 0
set_option maxHeartbeats 4000000 in
set_option maxRecDepth 100000 in
theorem c12_strength_ok (l : Launch) (D : va_G) (θ : Th) (N : Nat) (a1 : Int32) (ρ : Int32) (h : p12_strength N a1 = some ρ) : CSi l D θ y12_strength c12_strength 1 (some .int) 1 [.int a1] ρ := by
  intro sz
  refine j_met l [.int a1] (by decide +kernel) (Nat.le_of_ble_eq_true rfl) ?_
  intro p e s m args below meth c K hr hlk hnm hs
  generalize va_A ([] : va_W) sz = A at K ⊢
  have K : KM p s m args c c12_strength 1 y12_strength (some .int) D θ A := K
  show JS p l e s m args below meth c D θ A 1 1 (QSi below args s D θ A ρ) [(0, .int a1)] [] 0
  unfold p12_strength at h
  refine j_iload_n K 0 d12_strength_0 rfl rfl ?_
  refine j_bipush (v := 13) K d12_strength_1 (by decide) ?_
  refine j_icmp_ne (tgt := 10) K d12_strength_3 (by decide) (fun q => ?_) (fun q => ?_)
  · have h := if_f h q
    refine j_iload_n K 0 d12_strength_10 rfl rfl ?_
    refine j_bipush (v := 12) K d12_strength_11 (by decide) ?_
    refine j_icmp_ne (tgt := 20) K d12_strength_13 (by decide) (fun q => ?_) (fun q => ?_)
    · have h := if_f h q
      refine j_iload_n K 0 d12_strength_20 rfl rfl ?_
      refine j_bipush (v := 11) K d12_strength_21 (by decide) ?_
      refine j_icmp_ne (tgt := 30) K d12_strength_23 (by decide) (fun q => ?_) (fun q => ?_)
      · have h := if_f h q
        refine j_iconst (v := 0) K d12_strength_30 (by decide) ?_
        exact sret_i K h hr hlk d12_strength_31
      · have h := if_t h q
        refine j_iconst (v := 3) K d12_strength_26 (by decide) ?_
        refine j_goto (tgt := 31) K d12_strength_27 (by decide) ?_
        exact sret_i K h hr hlk d12_strength_31
    · have h := if_t h q
      refine j_iconst (v := 2) K d12_strength_16 (by decide) ?_
      refine j_goto (tgt := 31) K d12_strength_17 (by decide) ?_
      exact sret_i K h hr hlk d12_strength_31
  · have h := if_t h q
    refine j_iconst (v := 1) K d12_strength_6 (by decide) ?_
    refine j_goto (tgt := 31) K d12_strength_7 (by decide) ?_
    exact sret_i K h hr hlk d12_strength_31
def b12_isInside_2 (N : Nat) : Nat → Int32 → Mz → Option (Int32 × Mz)
  | 0, _, _ => none
  | n + 1, x1, μ => if (gi 9 μ) ≤ x1 then some (0, μ) else ck (inb x1 400) (if (ga 6 μ x1.toNatClampNeg) = 91 then some (1, μ) else lt (x1 + 1) (fun v2 => b12_isInside_2 N n v2 μ))
set_option maxHeartbeats 4000000 in
set_option maxRecDepth 100000 in
theorem t12_isInside_2 {p : Program} {l : Launch} {e : Env} {s : State} {m : MethodId} {args : Array Value} {below : List Frame} {meth : Method} {c : Code} {D : va_G} {θ : Th} {A : Nat → Prop} (K : KM p s m args c c12_isInside 2 y12_isInside (some .boolean) D θ A) (hr : meth.sig.returnType = (some .boolean)) (hlk : meth.locks = false) (N : Nat) (ρ : Int32 × Mz) : ∀ (n : Nat) (x1 : Int32) (μ : Mz), b12_isInside_2 N n x1 μ = some ρ → JM p l e s m args below meth c D θ A 1 2 (QMi below args s D θ A ρ) μ [(0, .ref θ.1), (1, .int x1)] [] 2 := by
  intro n
  induction n with
  | zero =>
    intro x1 μ h
    exact absurd h (by simp [b12_isInside_2])
  | succ n ih =>
    intro x1 μ h
    rw [b12_isInside_2] at h
    refine j_iload_n K 1 d12_isInside_2 rfl rfl ?_
    refine j_aload_n K 0 d12_isInside_3 rfl rfl ?_
    refine mg_opened K d12_isInside_4 ?_
    refine j_icmp_ge (tgt := 29) K d12_isInside_7 (by decide) (fun q => ?_) (fun q => ?_)
    · have h := if_t h q
      refine j_iconst (v := 0) K d12_isInside_29 (by decide) ?_
      exact mret_z K h rfl hr hlk d12_isInside_30
    · have h := if_f h q
      refine j_aload_n K 0 d12_isInside_10 rfl rfl ?_
      refine mg_open K d12_isInside_11 ?_
      refine j_iload_n K 1 d12_isInside_14 rfl rfl ?_
      obtain ⟨q1, h⟩ := ck_e h
      refine ml_open K (inb_e q1) d12_isInside_15 ?_
      refine j_bipush (v := 91) K d12_isInside_16 (by decide) ?_
      refine j_icmp_ne (tgt := 23) K d12_isInside_18 (by decide) (fun q => ?_) (fun q => ?_)
      · have h := if_f h q
        obtain ⟨v2, e2, h⟩ := lt_e h
        refine j_iinc (k := 1) (v := v2) (lv' := [(1, .int v2), (0, .ref θ.1)]) K d12_isInside_23 rfl (by rw [e2]; rfl) (by decide) rfl ?_
        refine j_goto (tgt := 2) K d12_isInside_26 (by decide) ?_
        refine j_sub [1, 0] rfl ?_
        exact ih v2 μ h
      · have h := if_t h q
        refine j_iconst (v := 1) K d12_isInside_21 (by decide) ?_
        exact mret_z K h rfl hr hlk d12_isInside_22
def p12_isInside (N : Nat)  (μ : Mz) : Option (Int32 × Mz) := b12_isInside_2 N N 0 μ
set_option maxHeartbeats 4000000 in
set_option maxRecDepth 100000 in
theorem c12_isInside_ok (l : Launch) (D : va_G) (θ : Th) (N : Nat)  (μ : Mz) (ρ : Int32 × Mz) (h : p12_isInside N  μ = some ρ) : CMi l D θ y12_isInside c12_isInside 2 (some .boolean) 1 [] μ ρ := by
  intro sz
  refine j_met l [.ref θ.1] (by decide +kernel) (Nat.le_of_ble_eq_true rfl) ?_
  intro p e s m args below meth c K hr hlk hnm hs
  generalize va_A (wM θ μ) sz = A at K ⊢
  have K : KM p s m args c c12_isInside 2 y12_isInside (some .boolean) D θ A := K
  show JM p l e s m args below meth c D θ A 1 2 (QMi below args s D θ A ρ) μ [(0, .ref θ.1)] [] 0
  unfold p12_isInside at h
  refine j_iconst (v := 0) K d12_isInside_0 (by decide) ?_
  refine j_istore_n (lv' := [(1, .int 0), (0, .ref θ.1)]) K d12_isInside_1 rfl (by decide) rfl ?_
  refine j_sub [1, 0] rfl ?_
  exact t12_isInside_2 K hr hlk N ρ N 0 μ h
def p12_isRule (N : Nat) (a1 : Int32) (μ : Mz) : Option (Int32 × Mz) := if a1 < 0 then some (0, μ) else if (gi 1 μ) ≤ a1 then some (0, μ) else some (1, μ)
set_option maxHeartbeats 4000000 in
set_option maxRecDepth 100000 in
theorem c12_isRule_ok (l : Launch) (D : va_G) (θ : Th) (N : Nat) (a1 : Int32) (μ : Mz) (ρ : Int32 × Mz) (h : p12_isRule N a1 μ = some ρ) : CMi l D θ y12_isRule c12_isRule 2 (some .boolean) 1 [.int a1] μ ρ := by
  intro sz
  refine j_met l [.ref θ.1, .int a1] (by decide +kernel) (Nat.le_of_ble_eq_true rfl) ?_
  intro p e s m args below meth c K hr hlk hnm hs
  generalize va_A (wM θ μ) sz = A at K ⊢
  have K : KM p s m args c c12_isRule 2 y12_isRule (some .boolean) D θ A := K
  show JM p l e s m args below meth c D θ A 1 2 (QMi below args s D θ A ρ) μ [(0, .ref θ.1), (1, .int a1)] [] 0
  unfold p12_isRule at h
  refine j_iload_n K 1 d12_isRule_0 rfl rfl ?_
  refine j_if_lt (tgt := 16) K d12_isRule_1 (by decide) (fun q => ?_) (fun q => ?_)
  · have h := if_t h q
    refine j_iconst (v := 0) K d12_isRule_16 (by decide) ?_
    exact mret_z K h rfl hr hlk d12_isRule_17
  · have h := if_f h q
    refine j_iload_n K 1 d12_isRule_4 rfl rfl ?_
    refine j_aload_n K 0 d12_isRule_5 rfl rfl ?_
    refine mg_rules K d12_isRule_6 ?_
    refine j_icmp_ge (tgt := 16) K d12_isRule_9 (by decide) (fun q => ?_) (fun q => ?_)
    · have h := if_t h q
      refine j_iconst (v := 0) K d12_isRule_16 (by decide) ?_
      exact mret_z K h rfl hr hlk d12_isRule_17
    · have h := if_f h q
      refine j_iconst (v := 1) K d12_isRule_12 (by decide) ?_
      refine j_goto (tgt := 17) K d12_isRule_13 (by decide) ?_
      exact mret_z K h rfl hr hlk d12_isRule_17
def p12_push (N : Nat) (a1 : Int64) (μ : Mz) : Option (Mz) := ck (inb (gi 10 μ) 64) (lt (sl 0 (vp_updL (gl 0 μ) (gi 10 μ).toNatClampNeg a1) μ) (fun μ2 => lt (si 10 ((gi 10 μ2) + 1) μ2) (fun μ3 => some μ3)))
set_option maxHeartbeats 4000000 in
set_option maxRecDepth 100000 in
theorem c12_push_ok (l : Launch) (D : va_G) (θ : Th) (N : Nat) (a1 : Int64) (μ : Mz) (ρ : Mz) (h : p12_push N a1 μ = some ρ) : CMv l D θ y12_push c12_push 3 none 1 [.long a1] μ ρ := by
  intro sz
  refine j_met l [.ref θ.1, .long a1] (by decide +kernel) (Nat.le_of_ble_eq_true rfl) ?_
  intro p e s m args below meth c K hr hlk hnm hs
  generalize va_A (wM θ μ) sz = A at K ⊢
  have K : KM p s m args c c12_push 3 y12_push none D θ A := K
  show JM p l e s m args below meth c D θ A 1 3 (QMv below args s D θ A ρ) μ [(0, .ref θ.1), (1, .long a1)] [] 0
  unfold p12_push at h
  refine j_aload_n K 0 d12_push_0 rfl rfl ?_
  refine mg_stack K d12_push_1 ?_
  refine j_aload_n K 0 d12_push_4 rfl rfl ?_
  refine mg_top K d12_push_5 ?_
  refine j_lload_n K 1 d12_push_8 rfl rfl ?_
  obtain ⟨q1, h⟩ := ck_e h
  obtain ⟨μ2, e2, h⟩ := lt_e h
  refine ms_stack K (inb_e q1) d12_push_9 e2 ?_
  refine j_aload_n K 0 d12_push_10 rfl rfl ?_
  refine j_dup K d12_push_11 rfl ?_
  refine mg_top K d12_push_12 ?_
  refine j_iconst (v := 1) K d12_push_15 (by decide) ?_
  refine j_iadd K d12_push_16 ?_
  obtain ⟨μ3, e3, h⟩ := lt_e h
  refine mp_top K d12_push_17 e3 ?_
  exact mret_v K h hr hlk d12_push_20
def p12_pop (N : Nat)  (μ : Mz) : Option (Int64 × Mz) := lt (si 10 ((gi 10 μ) - 1) μ) (fun μ1 => lt (gi 10 μ1) (fun v2 => ck (inb v2 64) (some (gl 0 μ1 v2.toNatClampNeg, μ1))))
set_option maxHeartbeats 4000000 in
set_option maxRecDepth 100000 in
theorem c12_pop_ok (l : Launch) (D : va_G) (θ : Th) (N : Nat)  (μ : Mz) (ρ : Int64 × Mz) (h : p12_pop N  μ = some ρ) : CMl l D θ y12_pop c12_pop 1 (some .long) 1 [] μ ρ := by
  intro sz
  refine j_met l [.ref θ.1] (by decide +kernel) (Nat.le_of_ble_eq_true rfl) ?_
  intro p e s m args below meth c K hr hlk hnm hs
  generalize va_A (wM θ μ) sz = A at K ⊢
  have K : KM p s m args c c12_pop 1 y12_pop (some .long) D θ A := K
  show JM p l e s m args below meth c D θ A 1 1 (QMl below args s D θ A ρ) μ [(0, .ref θ.1)] [] 0
  unfold p12_pop at h
  refine j_aload_n K 0 d12_pop_0 rfl rfl ?_
  refine j_dup K d12_pop_1 rfl ?_
  refine mg_top K d12_pop_2 ?_
  refine j_iconst (v := 1) K d12_pop_5 (by decide) ?_
  refine j_isub K d12_pop_6 ?_
  obtain ⟨μ1, e1, h⟩ := lt_e h
  refine mp_top K d12_pop_7 e1 ?_
  refine j_aload_n K 0 d12_pop_10 rfl rfl ?_
  refine mg_stack K d12_pop_11 ?_
  refine j_aload_n K 0 d12_pop_14 rfl rfl ?_
  refine mg_top K d12_pop_15 ?_
  obtain ⟨v2, e2, h⟩ := lt_e h
  refine j_eqi e2 ?_
  obtain ⟨q3, h⟩ := ck_e h
  refine ml_stack K (inb_e q3) d12_pop_18 ?_
  exact mret_l K h hr hlk d12_pop_19
def p12_sumOfTwo (N : Nat) (a1 : Int32) (a2 : Int64) (a3 : Int64) : Option (Int64) := if a1.toInt < 2 ∨ 14 < a1.toInt then some (a2 ||| a3) else if a1 = 2 then some (a2 + a3) else if a1 = 3 then some (a2 - a3) else if a1 = 4 then some (a2 * a3) else if a1 = 5 then if (lg_cmp a3 0) = 0 then some 0 else ck (nzL a3) (some (a2 / a3)) else if a1 = 6 then if 0 ≤ (lg_cmp a2 a3) then some 0 else some 1 else if a1 = 7 then if 0 < (lg_cmp a2 a3) then some 0 else some 1 else if a1 = 8 then if (lg_cmp a2 a3) = 0 then some 1 else some 0 else if a1 = 9 then if (lg_cmp a2 a3) < 0 then some 0 else some 1 else if a1 = 10 then if (lg_cmp a2 a3) ≤ 0 then some 0 else some 1 else if a1 = 11 then some (a2 ||| a3) else if a1 = 12 then some (a2 &&& a3) else if a1 = 13 then some (a2 ||| a3) else if a1 = 14 then if (lg_cmp a3 0) = 0 then some 0 else ck (nzL a3) (some (a2 - a2 / a3 * a3)) else none
set_option maxHeartbeats 4000000 in
set_option maxRecDepth 100000 in
theorem c12_sumOfTwo_ok (l : Launch) (D : va_G) (θ : Th) (N : Nat) (a1 : Int32) (a2 : Int64) (a3 : Int64) (ρ : Int64) (h : p12_sumOfTwo N a1 a2 a3 = some ρ) : CSl l D θ y12_sumOfTwo c12_sumOfTwo 5 (some .long) 1 [.int a1, .long a2, .long a3] ρ := by
  intro sz
  refine j_met l [.int a1, .long a2, .long a3] (by decide +kernel) (Nat.le_of_ble_eq_true rfl) ?_
  intro p e s m args below meth c K hr hlk hnm hs
  generalize va_A ([] : va_W) sz = A at K ⊢
  have K : KM p s m args c c12_sumOfTwo 5 y12_sumOfTwo (some .long) D θ A := K
  show JS p l e s m args below meth c D θ A 1 5 (QSl below args s D θ A ρ) [(0, .int a1), (1, .long a2), (3, .long a3)] [] 0
  unfold p12_sumOfTwo at h
  refine j_iload_n K 0 d12_sumOfTwo_0 rfl rfl ?_
  by_cases q : a1.toInt < 2 ∨ 14 < a1.toInt
  · have h := if_t h q
    refine j_tabOut (tgt := 172) K d12_sumOfTwo_1 q (by decide) ?_
    refine j_lload_n K 1 d12_sumOfTwo_172 rfl rfl ?_
    refine j_lload_n K 2 d12_sumOfTwo_173 rfl rfl ?_
    refine j_lor K d12_sumOfTwo_174 ?_
    exact sret_l K h hr hlk d12_sumOfTwo_175
  · have h := if_f h q
    by_cases q : a1 = 2
    · have h := if_t h q
      have q1 : a1.toInt = 2 := by rw [q]; decide
      refine j_tabIn (tgt := 68) K d12_sumOfTwo_1 (by rw [q1]; decide) (by rw [q1]; decide) (by rw [q1]; rfl) (by decide) ?_
      refine j_lload_n K 1 d12_sumOfTwo_68 rfl rfl ?_
      refine j_lload_n K 2 d12_sumOfTwo_69 rfl rfl ?_
      refine j_ladd K d12_sumOfTwo_70 ?_
      exact sret_l K h hr hlk d12_sumOfTwo_71
    have h := if_f h q
    by_cases q : a1 = 3
    · have h := if_t h q
      have q1 : a1.toInt = 3 := by rw [q]; decide
      refine j_tabIn (tgt := 72) K d12_sumOfTwo_1 (by rw [q1]; decide) (by rw [q1]; decide) (by rw [q1]; rfl) (by decide) ?_
      refine j_lload_n K 1 d12_sumOfTwo_72 rfl rfl ?_
      refine j_lload_n K 2 d12_sumOfTwo_73 rfl rfl ?_
      refine j_lsub K d12_sumOfTwo_74 ?_
      exact sret_l K h hr hlk d12_sumOfTwo_75
    have h := if_f h q
    by_cases q : a1 = 4
    · have h := if_t h q
      have q1 : a1.toInt = 4 := by rw [q]; decide
      refine j_tabIn (tgt := 76) K d12_sumOfTwo_1 (by rw [q1]; decide) (by rw [q1]; decide) (by rw [q1]; rfl) (by decide) ?_
      refine j_lload_n K 1 d12_sumOfTwo_76 rfl rfl ?_
      refine j_lload_n K 2 d12_sumOfTwo_77 rfl rfl ?_
      refine j_lmul K d12_sumOfTwo_78 ?_
      exact sret_l K h hr hlk d12_sumOfTwo_79
    have h := if_f h q
    by_cases q : a1 = 5
    · have h := if_t h q
      have q1 : a1.toInt = 5 := by rw [q]; decide
      refine j_tabIn (tgt := 80) K d12_sumOfTwo_1 (by rw [q1]; decide) (by rw [q1]; decide) (by rw [q1]; rfl) (by decide) ?_
      refine j_lload_n K 2 d12_sumOfTwo_80 rfl rfl ?_
      refine j_lconst (v := 0) K d12_sumOfTwo_81 (by decide) ?_
      refine j_lcmp K d12_sumOfTwo_82 ?_
      refine j_if_ne (tgt := 90) K d12_sumOfTwo_83 (by decide) (fun q => ?_) (fun q => ?_)
      · have h := if_f h q
        refine j_lload_n K 1 d12_sumOfTwo_90 rfl rfl ?_
        refine j_lload_n K 2 d12_sumOfTwo_91 rfl rfl ?_
        obtain ⟨q1, h⟩ := ck_e h
        refine j_ldiv K d12_sumOfTwo_92 (nzL_e q1) ?_
        exact sret_l K h hr hlk d12_sumOfTwo_93
      · have h := if_t h q
        refine j_lconst (v := 0) K d12_sumOfTwo_86 (by decide) ?_
        refine j_goto (tgt := 93) K d12_sumOfTwo_87 (by decide) ?_
        exact sret_l K h hr hlk d12_sumOfTwo_93
    have h := if_f h q
    by_cases q : a1 = 6
    · have h := if_t h q
      have q1 : a1.toInt = 6 := by rw [q]; decide
      refine j_tabIn (tgt := 108) K d12_sumOfTwo_1 (by rw [q1]; decide) (by rw [q1]; decide) (by rw [q1]; rfl) (by decide) ?_
      refine j_lload_n K 1 d12_sumOfTwo_108 rfl rfl ?_
      refine j_lload_n K 2 d12_sumOfTwo_109 rfl rfl ?_
      refine j_lcmp K d12_sumOfTwo_110 ?_
      refine j_if_ge (tgt := 118) K d12_sumOfTwo_111 (by decide) (fun q => ?_) (fun q => ?_)
      · have h := if_t h q
        refine j_lconst (v := 0) K d12_sumOfTwo_118 (by decide) ?_
        exact sret_l K h hr hlk d12_sumOfTwo_119
      · have h := if_f h q
        refine j_lconst (v := 1) K d12_sumOfTwo_114 (by decide) ?_
        refine j_goto (tgt := 119) K d12_sumOfTwo_115 (by decide) ?_
        exact sret_l K h hr hlk d12_sumOfTwo_119
    have h := if_f h q
    by_cases q : a1 = 7
    · have h := if_t h q
      have q1 : a1.toInt = 7 := by rw [q]; decide
      refine j_tabIn (tgt := 120) K d12_sumOfTwo_1 (by rw [q1]; decide) (by rw [q1]; decide) (by rw [q1]; rfl) (by decide) ?_
      refine j_lload_n K 1 d12_sumOfTwo_120 rfl rfl ?_
      refine j_lload_n K 2 d12_sumOfTwo_121 rfl rfl ?_
      refine j_lcmp K d12_sumOfTwo_122 ?_
      refine j_if_gt (tgt := 130) K d12_sumOfTwo_123 (by decide) (fun q => ?_) (fun q => ?_)
      · have h := if_t h q
        refine j_lconst (v := 0) K d12_sumOfTwo_130 (by decide) ?_
        exact sret_l K h hr hlk d12_sumOfTwo_131
      · have h := if_f h q
        refine j_lconst (v := 1) K d12_sumOfTwo_126 (by decide) ?_
        refine j_goto (tgt := 131) K d12_sumOfTwo_127 (by decide) ?_
        exact sret_l K h hr hlk d12_sumOfTwo_131
    have h := if_f h q
    by_cases q : a1 = 8
    · have h := if_t h q
      have q1 : a1.toInt = 8 := by rw [q]; decide
      refine j_tabIn (tgt := 132) K d12_sumOfTwo_1 (by rw [q1]; decide) (by rw [q1]; decide) (by rw [q1]; rfl) (by decide) ?_
      refine j_lload_n K 1 d12_sumOfTwo_132 rfl rfl ?_
      refine j_lload_n K 2 d12_sumOfTwo_133 rfl rfl ?_
      refine j_lcmp K d12_sumOfTwo_134 ?_
      refine j_if_ne (tgt := 142) K d12_sumOfTwo_135 (by decide) (fun q => ?_) (fun q => ?_)
      · have h := if_f h q
        refine j_lconst (v := 0) K d12_sumOfTwo_142 (by decide) ?_
        exact sret_l K h hr hlk d12_sumOfTwo_143
      · have h := if_t h q
        refine j_lconst (v := 1) K d12_sumOfTwo_138 (by decide) ?_
        refine j_goto (tgt := 143) K d12_sumOfTwo_139 (by decide) ?_
        exact sret_l K h hr hlk d12_sumOfTwo_143
    have h := if_f h q
    by_cases q : a1 = 9
    · have h := if_t h q
      have q1 : a1.toInt = 9 := by rw [q]; decide
      refine j_tabIn (tgt := 144) K d12_sumOfTwo_1 (by rw [q1]; decide) (by rw [q1]; decide) (by rw [q1]; rfl) (by decide) ?_
      refine j_lload_n K 1 d12_sumOfTwo_144 rfl rfl ?_
      refine j_lload_n K 2 d12_sumOfTwo_145 rfl rfl ?_
      refine j_lcmp K d12_sumOfTwo_146 ?_
      refine j_if_lt (tgt := 154) K d12_sumOfTwo_147 (by decide) (fun q => ?_) (fun q => ?_)
      · have h := if_t h q
        refine j_lconst (v := 0) K d12_sumOfTwo_154 (by decide) ?_
        exact sret_l K h hr hlk d12_sumOfTwo_155
      · have h := if_f h q
        refine j_lconst (v := 1) K d12_sumOfTwo_150 (by decide) ?_
        refine j_goto (tgt := 155) K d12_sumOfTwo_151 (by decide) ?_
        exact sret_l K h hr hlk d12_sumOfTwo_155
    have h := if_f h q
    by_cases q : a1 = 10
    · have h := if_t h q
      have q1 : a1.toInt = 10 := by rw [q]; decide
      refine j_tabIn (tgt := 156) K d12_sumOfTwo_1 (by rw [q1]; decide) (by rw [q1]; decide) (by rw [q1]; rfl) (by decide) ?_
      refine j_lload_n K 1 d12_sumOfTwo_156 rfl rfl ?_
      refine j_lload_n K 2 d12_sumOfTwo_157 rfl rfl ?_
      refine j_lcmp K d12_sumOfTwo_158 ?_
      refine j_if_le (tgt := 166) K d12_sumOfTwo_159 (by decide) (fun q => ?_) (fun q => ?_)
      · have h := if_t h q
        refine j_lconst (v := 0) K d12_sumOfTwo_166 (by decide) ?_
        exact sret_l K h hr hlk d12_sumOfTwo_167
      · have h := if_f h q
        refine j_lconst (v := 1) K d12_sumOfTwo_162 (by decide) ?_
        refine j_goto (tgt := 167) K d12_sumOfTwo_163 (by decide) ?_
        exact sret_l K h hr hlk d12_sumOfTwo_167
    have h := if_f h q
    by_cases q : a1 = 11
    · have h := if_t h q
      have q1 : a1.toInt = 11 := by rw [q]; decide
      refine j_tabIn (tgt := 172) K d12_sumOfTwo_1 (by rw [q1]; decide) (by rw [q1]; decide) (by rw [q1]; rfl) (by decide) ?_
      refine j_lload_n K 1 d12_sumOfTwo_172 rfl rfl ?_
      refine j_lload_n K 2 d12_sumOfTwo_173 rfl rfl ?_
      refine j_lor K d12_sumOfTwo_174 ?_
      exact sret_l K h hr hlk d12_sumOfTwo_175
    have h := if_f h q
    by_cases q : a1 = 12
    · have h := if_t h q
      have q1 : a1.toInt = 12 := by rw [q]; decide
      refine j_tabIn (tgt := 168) K d12_sumOfTwo_1 (by rw [q1]; decide) (by rw [q1]; decide) (by rw [q1]; rfl) (by decide) ?_
      refine j_lload_n K 1 d12_sumOfTwo_168 rfl rfl ?_
      refine j_lload_n K 2 d12_sumOfTwo_169 rfl rfl ?_
      refine j_land K d12_sumOfTwo_170 ?_
      exact sret_l K h hr hlk d12_sumOfTwo_171
    have h := if_f h q
    by_cases q : a1 = 13
    · have h := if_t h q
      have q1 : a1.toInt = 13 := by rw [q]; decide
      refine j_tabIn (tgt := 172) K d12_sumOfTwo_1 (by rw [q1]; decide) (by rw [q1]; decide) (by rw [q1]; rfl) (by decide) ?_
      refine j_lload_n K 1 d12_sumOfTwo_172 rfl rfl ?_
      refine j_lload_n K 2 d12_sumOfTwo_173 rfl rfl ?_
      refine j_lor K d12_sumOfTwo_174 ?_
      exact sret_l K h hr hlk d12_sumOfTwo_175
    have h := if_f h q
    by_cases q : a1 = 14
    · have h := if_t h q
      have q1 : a1.toInt = 14 := by rw [q]; decide
      refine j_tabIn (tgt := 94) K d12_sumOfTwo_1 (by rw [q1]; decide) (by rw [q1]; decide) (by rw [q1]; rfl) (by decide) ?_
      refine j_lload_n K 2 d12_sumOfTwo_94 rfl rfl ?_
      refine j_lconst (v := 0) K d12_sumOfTwo_95 (by decide) ?_
      refine j_lcmp K d12_sumOfTwo_96 ?_
      refine j_if_ne (tgt := 104) K d12_sumOfTwo_97 (by decide) (fun q => ?_) (fun q => ?_)
      · have h := if_f h q
        refine j_lload_n K 1 d12_sumOfTwo_104 rfl rfl ?_
        refine j_lload_n K 2 d12_sumOfTwo_105 rfl rfl ?_
        obtain ⟨q2, h⟩ := ck_e h
        refine j_lrem K d12_sumOfTwo_106 (nzL_e q2) ?_
        exact sret_l K h hr hlk d12_sumOfTwo_107
      · have h := if_t h q
        refine j_lconst (v := 0) K d12_sumOfTwo_100 (by decide) ?_
        refine j_goto (tgt := 107) K d12_sumOfTwo_101 (by decide) ?_
        exact sret_l K h hr hlk d12_sumOfTwo_107
    have h := if_f h q
    exact absurd h (by simp)
def p12_isBook (N : Nat)  (μ : Mz) : Option (Int32 × Mz) := if (ga 7 μ (0 : Int32).toNatClampNeg) = 1 then some (1, μ) else some (0, μ)
set_option maxHeartbeats 4000000 in
set_option maxRecDepth 100000 in
theorem c12_isBook_ok (l : Launch) (D : va_G) (θ : Th) (N : Nat)  (μ : Mz) (ρ : Int32 × Mz) (h : p12_isBook N  μ = some ρ) : CMi l D θ y12_isBook c12_isBook 1 (some .boolean) 1 [] μ ρ := by
  intro sz
  refine j_met l [.ref θ.1] (by decide +kernel) (Nat.le_of_ble_eq_true rfl) ?_
  intro p e s m args below meth c K hr hlk hnm hs
  generalize va_A (wM θ μ) sz = A at K ⊢
  have K : KM p s m args c c12_isBook 1 y12_isBook (some .boolean) D θ A := K
  show JM p l e s m args below meth c D θ A 1 1 (QMi below args s D θ A ρ) μ [(0, .ref θ.1)] [] 0
  unfold p12_isBook at h
  refine j_aload_n K 0 d12_isBook_0 rfl rfl ?_
  refine mg_said K d12_isBook_1 ?_
  refine j_iconst (v := 0) K d12_isBook_4 (by decide) ?_
  refine ml_said K (inb_e (by decide)) d12_isBook_5 ?_
  refine j_iconst (v := 1) K d12_isBook_6 (by decide) ?_
  refine j_icmp_ne (tgt := 14) K d12_isBook_7 (by decide) (fun q => ?_) (fun q => ?_)
  · have h := if_f h q
    refine j_iconst (v := 0) K d12_isBook_14 (by decide) ?_
    exact mret_z K h rfl hr hlk d12_isBook_15
  · have h := if_t h q
    refine j_iconst (v := 1) K d12_isBook_10 (by decide) ?_
    refine j_goto (tgt := 15) K d12_isBook_11 (by decide) ?_
    exact mret_z K h rfl hr hlk d12_isBook_15
def p12_isInBook (N : Nat) (a1 : Int32) (μ : Mz) : Option (Int32 × Mz) := if a1 < 0 then some (0, μ) else if (ga 7 μ (3 : Int32).toNatClampNeg) ≤ a1 then some (0, μ) else some (1, μ)
set_option maxHeartbeats 4000000 in
set_option maxRecDepth 100000 in
theorem c12_isInBook_ok (l : Launch) (D : va_G) (θ : Th) (N : Nat) (a1 : Int32) (μ : Mz) (ρ : Int32 × Mz) (h : p12_isInBook N a1 μ = some ρ) : CMi l D θ y12_isInBook c12_isInBook 2 (some .boolean) 1 [.int a1] μ ρ := by
  intro sz
  refine j_met l [.ref θ.1, .int a1] (by decide +kernel) (Nat.le_of_ble_eq_true rfl) ?_
  intro p e s m args below meth c K hr hlk hnm hs
  generalize va_A (wM θ μ) sz = A at K ⊢
  have K : KM p s m args c c12_isInBook 2 y12_isInBook (some .boolean) D θ A := K
  show JM p l e s m args below meth c D θ A 1 2 (QMi below args s D θ A ρ) μ [(0, .ref θ.1), (1, .int a1)] [] 0
  unfold p12_isInBook at h
  refine j_iload_n K 1 d12_isInBook_0 rfl rfl ?_
  refine j_if_lt (tgt := 18) K d12_isInBook_1 (by decide) (fun q => ?_) (fun q => ?_)
  · have h := if_t h q
    refine j_iconst (v := 0) K d12_isInBook_18 (by decide) ?_
    exact mret_z K h rfl hr hlk d12_isInBook_19
  · have h := if_f h q
    refine j_iload_n K 1 d12_isInBook_4 rfl rfl ?_
    refine j_aload_n K 0 d12_isInBook_5 rfl rfl ?_
    refine mg_said K d12_isInBook_6 ?_
    refine j_iconst (v := 3) K d12_isInBook_9 (by decide) ?_
    refine ml_said K (inb_e (by decide)) d12_isInBook_10 ?_
    refine j_icmp_ge (tgt := 18) K d12_isInBook_11 (by decide) (fun q => ?_) (fun q => ?_)
    · have h := if_t h q
      refine j_iconst (v := 0) K d12_isInBook_18 (by decide) ?_
      exact mret_z K h rfl hr hlk d12_isInBook_19
    · have h := if_f h q
      refine j_iconst (v := 1) K d12_isInBook_14 (by decide) ?_
      refine j_goto (tgt := 19) K d12_isInBook_15 (by decide) ?_
      exact mret_z K h rfl hr hlk d12_isInBook_19
def p12_isWrong (N : Nat) (a1 : Int32) (μ : Mz) : Option (Int32 × Mz) := lt (13 + a1) (fun v1 => ck (inb v1 129) (lt (43 + a1) (fun v3 => ck (inb v3 129) (if (ga 7 μ v1.toNatClampNeg) = (ga 7 μ v3.toNatClampNeg) then some (0, μ) else some (1, μ)))))
set_option maxHeartbeats 4000000 in
set_option maxRecDepth 100000 in
theorem c12_isWrong_ok (l : Launch) (D : va_G) (θ : Th) (N : Nat) (a1 : Int32) (μ : Mz) (ρ : Int32 × Mz) (h : p12_isWrong N a1 μ = some ρ) : CMi l D θ y12_isWrong c12_isWrong 2 (some .boolean) 1 [.int a1] μ ρ := by
  intro sz
  refine j_met l [.ref θ.1, .int a1] (by decide +kernel) (Nat.le_of_ble_eq_true rfl) ?_
  intro p e s m args below meth c K hr hlk hnm hs
  generalize va_A (wM θ μ) sz = A at K ⊢
  have K : KM p s m args c c12_isWrong 2 y12_isWrong (some .boolean) D θ A := K
  show JM p l e s m args below meth c D θ A 1 2 (QMi below args s D θ A ρ) μ [(0, .ref θ.1), (1, .int a1)] [] 0
  unfold p12_isWrong at h
  refine j_aload_n K 0 d12_isWrong_0 rfl rfl ?_
  refine mg_said K d12_isWrong_1 ?_
  refine j_bipush (v := 13) K d12_isWrong_4 (by decide) ?_
  refine j_iload_n K 1 d12_isWrong_6 rfl rfl ?_
  refine j_iadd K d12_isWrong_7 ?_
  obtain ⟨v1, e1, h⟩ := lt_e h
  refine j_eqi e1 ?_
  obtain ⟨q2, h⟩ := ck_e h
  refine ml_said K (inb_e q2) d12_isWrong_8 ?_
  refine j_aload_n K 0 d12_isWrong_9 rfl rfl ?_
  refine mg_said K d12_isWrong_10 ?_
  refine j_bipush (v := 43) K d12_isWrong_13 (by decide) ?_
  refine j_iload_n K 1 d12_isWrong_15 rfl rfl ?_
  refine j_iadd K d12_isWrong_16 ?_
  obtain ⟨v3, e3, h⟩ := lt_e h
  refine j_eqi e3 ?_
  obtain ⟨q4, h⟩ := ck_e h
  refine ml_said K (inb_e q4) d12_isWrong_17 ?_
  refine j_icmp_eq (tgt := 25) K d12_isWrong_18 (by decide) (fun q => ?_) (fun q => ?_)
  · have h := if_t h q
    refine j_iconst (v := 0) K d12_isWrong_25 (by decide) ?_
    exact mret_z K h rfl hr hlk d12_isWrong_26
  · have h := if_f h q
    refine j_iconst (v := 1) K d12_isWrong_21 (by decide) ?_
    refine j_goto (tgt := 26) K d12_isWrong_22 (by decide) ?_
    exact mret_z K h rfl hr hlk d12_isWrong_26
def b12_begins_32 (N : Nat) : Nat → Int32 → Mz → Option (Mz)
  | 0, _, _ => none
  | n + 1, x1, μ => if 10 ≤ x1 then some μ else lt (53 + x1) (fun v5 => ck (inb v5 129) (lt (ga 7 μ v5.toNatClampNeg) (fun v7 => ck (inb (13 + x1) 129) (lt (sa 7 (upd (ga 7 μ) (13 + x1).toNatClampNeg v7) μ) (fun μ9 => ck (inb (23 + x1) 129) (lt (sa 7 (upd (ga 7 μ9) (23 + x1).toNatClampNeg 0) μ9) (fun μ11 => lt (63 + x1) (fun v12 => ck (inb v12 129) (lt (ga 7 μ11 v12.toNatClampNeg) (fun v14 => ck (inb (33 + x1) 129) (lt (sa 7 (upd (ga 7 μ11) (33 + x1).toNatClampNeg v14) μ11) (fun μ16 => lt (x1 + 1) (fun v17 => b12_begins_32 N n v17 μ16)))))))))))))
set_option maxHeartbeats 4000000 in
set_option maxRecDepth 100000 in
theorem t12_begins_32 {p : Program} {l : Launch} {e : Env} {s : State} {m : MethodId} {args : Array Value} {below : List Frame} {meth : Method} {c : Code} {D : va_G} {θ : Th} {A : Nat → Prop} (K : KM p s m args c c12_begins 2 y12_begins none D θ A) (hr : meth.sig.returnType = none) (hlk : meth.locks = false) (N : Nat) (ρ : Mz) : ∀ (n : Nat) (x1 : Int32) (μ : Mz), b12_begins_32 N n x1 μ = some ρ → JM p l e s m args below meth c D θ A 1 2 (QMv below args s D θ A ρ) μ [(0, .ref θ.1), (1, .int x1)] [] 32 := by
  intro n
  induction n with
  | zero =>
    intro x1 μ h
    exact absurd h (by simp [b12_begins_32])
  | succ n ih =>
    intro x1 μ h
    rw [b12_begins_32] at h
    refine j_iload_n K 1 d12_begins_32 rfl rfl ?_
    refine j_bipush (v := 10) K d12_begins_33 (by decide) ?_
    refine j_icmp_ge (tgt := 90) K d12_begins_35 (by decide) (fun q => ?_) (fun q => ?_)
    · have h := if_t h q
      exact mret_v K h hr hlk d12_begins_90
    · have h := if_f h q
      refine j_aload_n K 0 d12_begins_38 rfl rfl ?_
      refine mg_said K d12_begins_39 ?_
      refine j_bipush (v := 13) K d12_begins_42 (by decide) ?_
      refine j_iload_n K 1 d12_begins_44 rfl rfl ?_
      refine j_iadd K d12_begins_45 ?_
      refine j_aload_n K 0 d12_begins_46 rfl rfl ?_
      refine mg_said K d12_begins_47 ?_
      refine j_bipush (v := 53) K d12_begins_50 (by decide) ?_
      refine j_iload_n K 1 d12_begins_52 rfl rfl ?_
      refine j_iadd K d12_begins_53 ?_
      obtain ⟨v5, e5, h⟩ := lt_e h
      refine j_eqi e5 ?_
      obtain ⟨q6, h⟩ := ck_e h
      refine ml_said K (inb_e q6) d12_begins_54 ?_
      obtain ⟨v7, e7, h⟩ := lt_e h
      refine j_eqi e7 ?_
      obtain ⟨q8, h⟩ := ck_e h
      obtain ⟨μ9, e9, h⟩ := lt_e h
      refine ms_said K (inb_e q8) d12_begins_55 e9 ?_
      refine j_aload_n K 0 d12_begins_56 rfl rfl ?_
      refine mg_said K d12_begins_57 ?_
      refine j_bipush (v := 23) K d12_begins_60 (by decide) ?_
      refine j_iload_n K 1 d12_begins_62 rfl rfl ?_
      refine j_iadd K d12_begins_63 ?_
      refine j_iconst (v := 0) K d12_begins_64 (by decide) ?_
      obtain ⟨q10, h⟩ := ck_e h
      obtain ⟨μ11, e11, h⟩ := lt_e h
      refine ms_said K (inb_e q10) d12_begins_65 e11 ?_
      refine j_aload_n K 0 d12_begins_66 rfl rfl ?_
      refine mg_said K d12_begins_67 ?_
      refine j_bipush (v := 33) K d12_begins_70 (by decide) ?_
      refine j_iload_n K 1 d12_begins_72 rfl rfl ?_
      refine j_iadd K d12_begins_73 ?_
      refine j_aload_n K 0 d12_begins_74 rfl rfl ?_
      refine mg_said K d12_begins_75 ?_
      refine j_bipush (v := 63) K d12_begins_78 (by decide) ?_
      refine j_iload_n K 1 d12_begins_80 rfl rfl ?_
      refine j_iadd K d12_begins_81 ?_
      obtain ⟨v12, e12, h⟩ := lt_e h
      refine j_eqi e12 ?_
      obtain ⟨q13, h⟩ := ck_e h
      refine ml_said K (inb_e q13) d12_begins_82 ?_
      obtain ⟨v14, e14, h⟩ := lt_e h
      refine j_eqi e14 ?_
      obtain ⟨q15, h⟩ := ck_e h
      obtain ⟨μ16, e16, h⟩ := lt_e h
      refine ms_said K (inb_e q15) d12_begins_83 e16 ?_
      obtain ⟨v17, e17, h⟩ := lt_e h
      refine j_iinc (k := 1) (v := v17) (lv' := [(1, .int v17), (0, .ref θ.1)]) K d12_begins_84 rfl (by rw [e17]; rfl) (by decide) rfl ?_
      refine j_goto (tgt := 32) K d12_begins_87 (by decide) ?_
      refine j_sub [1, 0] rfl ?_
      exact ih v17 μ16 h
def p12_begins (N : Nat)  (μ : Mz) : Option (Mz) := lt (sa 7 (upd (ga 7 μ) (10 : Int32).toNatClampNeg 0) μ) (fun μ1 => lt (ga 7 μ1 (97 : Int32).toNatClampNeg) (fun v2 => lt (sa 7 (upd (ga 7 μ1) (11 : Int32).toNatClampNeg v2) μ1) (fun μ3 => lt (sa 7 (upd (ga 7 μ3) (12 : Int32).toNatClampNeg 0) μ3) (fun μ4 => b12_begins_32 N N 0 μ4))))
set_option maxHeartbeats 4000000 in
set_option maxRecDepth 100000 in
theorem c12_begins_ok (l : Launch) (D : va_G) (θ : Th) (N : Nat)  (μ : Mz) (ρ : Mz) (h : p12_begins N  μ = some ρ) : CMv l D θ y12_begins c12_begins 2 none 1 [] μ ρ := by
  intro sz
  refine j_met l [.ref θ.1] (by decide +kernel) (Nat.le_of_ble_eq_true rfl) ?_
  intro p e s m args below meth c K hr hlk hnm hs
  generalize va_A (wM θ μ) sz = A at K ⊢
  have K : KM p s m args c c12_begins 2 y12_begins none D θ A := K
  show JM p l e s m args below meth c D θ A 1 2 (QMv below args s D θ A ρ) μ [(0, .ref θ.1)] [] 0
  unfold p12_begins at h
  refine j_aload_n K 0 d12_begins_0 rfl rfl ?_
  refine mg_said K d12_begins_1 ?_
  refine j_bipush (v := 10) K d12_begins_4 (by decide) ?_
  refine j_iconst (v := 0) K d12_begins_6 (by decide) ?_
  obtain ⟨μ1, e1, h⟩ := lt_e h
  refine ms_said K (inb_e (by decide)) d12_begins_7 e1 ?_
  refine j_aload_n K 0 d12_begins_8 rfl rfl ?_
  refine mg_said K d12_begins_9 ?_
  refine j_bipush (v := 11) K d12_begins_12 (by decide) ?_
  refine j_aload_n K 0 d12_begins_14 rfl rfl ?_
  refine mg_said K d12_begins_15 ?_
  refine j_bipush (v := 97) K d12_begins_18 (by decide) ?_
  refine ml_said K (inb_e (by decide)) d12_begins_20 ?_
  obtain ⟨v2, e2, h⟩ := lt_e h
  refine j_eqi e2 ?_
  obtain ⟨μ3, e3, h⟩ := lt_e h
  refine ms_said K (inb_e (by decide)) d12_begins_21 e3 ?_
  refine j_aload_n K 0 d12_begins_22 rfl rfl ?_
  refine mg_said K d12_begins_23 ?_
  refine j_bipush (v := 12) K d12_begins_26 (by decide) ?_
  refine j_iconst (v := 0) K d12_begins_28 (by decide) ?_
  obtain ⟨μ4, e4, h⟩ := lt_e h
  refine ms_said K (inb_e (by decide)) d12_begins_29 e4 ?_
  refine j_iconst (v := 0) K d12_begins_30 (by decide) ?_
  refine j_istore_n (lv' := [(1, .int 0), (0, .ref θ.1)]) K d12_begins_31 rfl (by decide) rfl ?_
  refine j_sub [1, 0] rfl ?_
  exact t12_begins_32 K hr hlk N ρ N 0 μ4 h
def b12_keepsAct_52 (N : Nat) : Nat → Int32 → Mz → Option (Mz)
  | 0, _, _ => none
  | n + 1, x1, μ => if 33 ≤ x1 then lt (si 16 ((gi 16 μ) + 1) μ) (fun μ1 => some μ1) else lt (10 + x1) (fun v2 => ck (inb v2 129) (lt (ga 7 μ v2.toNatClampNeg) (fun v4 => ck (inb ((33 * (gi 16 μ)) + x1) 660) (lt (sa 8 (upd (ga 8 μ) ((33 * (gi 16 μ)) + x1).toNatClampNeg v4) μ) (fun μ6 => lt (x1 + 1) (fun v7 => b12_keepsAct_52 N n v7 μ6))))))
set_option maxHeartbeats 4000000 in
set_option maxRecDepth 100000 in
theorem t12_keepsAct_52 {p : Program} {l : Launch} {e : Env} {s : State} {m : MethodId} {args : Array Value} {below : List Frame} {meth : Method} {c : Code} {D : va_G} {θ : Th} {A : Nat → Prop} (K : KM p s m args c c12_keepsAct 2 y12_keepsAct none D θ A) (hr : meth.sig.returnType = none) (hlk : meth.locks = false) (N : Nat) (ρ : Mz) : ∀ (n : Nat) (x1 : Int32) (μ : Mz), b12_keepsAct_52 N n x1 μ = some ρ → JM p l e s m args below meth c D θ A 1 2 (QMv below args s D θ A ρ) μ [(0, .ref θ.1), (1, .int x1)] [] 52 := by
  intro n
  induction n with
  | zero =>
    intro x1 μ h
    exact absurd h (by simp [b12_keepsAct_52])
  | succ n ih =>
    intro x1 μ h
    rw [b12_keepsAct_52] at h
    refine j_iload_n K 1 d12_keepsAct_52 rfl rfl ?_
    refine j_bipush (v := 33) K d12_keepsAct_53 (by decide) ?_
    refine j_icmp_ge (tgt := 87) K d12_keepsAct_55 (by decide) (fun q => ?_) (fun q => ?_)
    · have h := if_t h q
      refine j_aload_n K 0 d12_keepsAct_87 rfl rfl ?_
      refine j_dup K d12_keepsAct_88 rfl ?_
      refine mg_undone K d12_keepsAct_89 ?_
      refine j_iconst (v := 1) K d12_keepsAct_92 (by decide) ?_
      refine j_iadd K d12_keepsAct_93 ?_
      obtain ⟨μ1, e1, h⟩ := lt_e h
      refine mp_undone K d12_keepsAct_94 e1 ?_
      exact mret_v K h hr hlk d12_keepsAct_97
    · have h := if_f h q
      refine j_aload_n K 0 d12_keepsAct_58 rfl rfl ?_
      refine mg_wasSaid K d12_keepsAct_59 ?_
      refine j_bipush (v := 33) K d12_keepsAct_62 (by decide) ?_
      refine j_aload_n K 0 d12_keepsAct_64 rfl rfl ?_
      refine mg_undone K d12_keepsAct_65 ?_
      refine j_imul K d12_keepsAct_68 ?_
      refine j_iload_n K 1 d12_keepsAct_69 rfl rfl ?_
      refine j_iadd K d12_keepsAct_70 ?_
      refine j_aload_n K 0 d12_keepsAct_71 rfl rfl ?_
      refine mg_said K d12_keepsAct_72 ?_
      refine j_bipush (v := 10) K d12_keepsAct_75 (by decide) ?_
      refine j_iload_n K 1 d12_keepsAct_77 rfl rfl ?_
      refine j_iadd K d12_keepsAct_78 ?_
      obtain ⟨v2, e2, h⟩ := lt_e h
      refine j_eqi e2 ?_
      obtain ⟨q3, h⟩ := ck_e h
      refine ml_said K (inb_e q3) d12_keepsAct_79 ?_
      obtain ⟨v4, e4, h⟩ := lt_e h
      refine j_eqi e4 ?_
      obtain ⟨q5, h⟩ := ck_e h
      obtain ⟨μ6, e6, h⟩ := lt_e h
      refine ms_wasSaid K (inb_e q5) d12_keepsAct_80 e6 ?_
      obtain ⟨v7, e7, h⟩ := lt_e h
      refine j_iinc (k := 1) (v := v7) (lv' := [(1, .int v7), (0, .ref θ.1)]) K d12_keepsAct_81 rfl (by rw [e7]; rfl) (by decide) rfl ?_
      refine j_goto (tgt := 52) K d12_keepsAct_84 (by decide) ?_
      refine j_sub [1, 0] rfl ?_
      exact ih v7 μ6 h
def b12_keepsAct_12 (N : Nat) : Nat → Int32 → Mz → Option (Mz)
  | 0, _, _ => none
  | n + 1, x1, μ => if 660 ≤ x1 then lt (si 16 ((gi 16 μ) - 1) μ) (fun μ8 => b12_keepsAct_52 N N 0 μ8) else ck (inb x1 660) (lt (ga 8 μ x1.toNatClampNeg) (fun v10 => ck (inb (x1 - 33) 660) (lt (sa 8 (upd (ga 8 μ) (x1 - 33).toNatClampNeg v10) μ) (fun μ12 => lt (x1 + 1) (fun v13 => b12_keepsAct_12 N n v13 μ12)))))
set_option maxHeartbeats 4000000 in
set_option maxRecDepth 100000 in
theorem t12_keepsAct_12 {p : Program} {l : Launch} {e : Env} {s : State} {m : MethodId} {args : Array Value} {below : List Frame} {meth : Method} {c : Code} {D : va_G} {θ : Th} {A : Nat → Prop} (K : KM p s m args c c12_keepsAct 2 y12_keepsAct none D θ A) (hr : meth.sig.returnType = none) (hlk : meth.locks = false) (N : Nat) (ρ : Mz) : ∀ (n : Nat) (x1 : Int32) (μ : Mz), b12_keepsAct_12 N n x1 μ = some ρ → JM p l e s m args below meth c D θ A 1 2 (QMv below args s D θ A ρ) μ [(0, .ref θ.1), (1, .int x1)] [] 12 := by
  intro n
  induction n with
  | zero =>
    intro x1 μ h
    exact absurd h (by simp [b12_keepsAct_12])
  | succ n ih =>
    intro x1 μ h
    rw [b12_keepsAct_12] at h
    refine j_iload_n K 1 d12_keepsAct_12 rfl rfl ?_
    refine j_sipush (v := 660) K d12_keepsAct_13 (by decide) ?_
    refine j_icmp_ge (tgt := 40) K d12_keepsAct_16 (by decide) (fun q => ?_) (fun q => ?_)
    · have h := if_t h q
      refine j_aload_n K 0 d12_keepsAct_40 rfl rfl ?_
      refine j_dup K d12_keepsAct_41 rfl ?_
      refine mg_undone K d12_keepsAct_42 ?_
      refine j_iconst (v := 1) K d12_keepsAct_45 (by decide) ?_
      refine j_isub K d12_keepsAct_46 ?_
      obtain ⟨μ8, e8, h⟩ := lt_e h
      refine mp_undone K d12_keepsAct_47 e8 ?_
      refine j_iconst (v := 0) K d12_keepsAct_50 (by decide) ?_
      refine j_istore_n (lv' := [(1, .int 0), (0, .ref θ.1)]) K d12_keepsAct_51 rfl (by decide) rfl ?_
      refine j_sub [1, 0] rfl ?_
      exact t12_keepsAct_52 K hr hlk N ρ N 0 μ8 h
    · have h := if_f h q
      refine j_aload_n K 0 d12_keepsAct_19 rfl rfl ?_
      refine mg_wasSaid K d12_keepsAct_20 ?_
      refine j_iload_n K 1 d12_keepsAct_23 rfl rfl ?_
      refine j_bipush (v := 33) K d12_keepsAct_24 (by decide) ?_
      refine j_isub K d12_keepsAct_26 ?_
      refine j_aload_n K 0 d12_keepsAct_27 rfl rfl ?_
      refine mg_wasSaid K d12_keepsAct_28 ?_
      refine j_iload_n K 1 d12_keepsAct_31 rfl rfl ?_
      obtain ⟨q9, h⟩ := ck_e h
      refine ml_wasSaid K (inb_e q9) d12_keepsAct_32 ?_
      obtain ⟨v10, e10, h⟩ := lt_e h
      refine j_eqi e10 ?_
      obtain ⟨q11, h⟩ := ck_e h
      obtain ⟨μ12, e12, h⟩ := lt_e h
      refine ms_wasSaid K (inb_e q11) d12_keepsAct_33 e12 ?_
      obtain ⟨v13, e13, h⟩ := lt_e h
      refine j_iinc (k := 1) (v := v13) (lv' := [(1, .int v13), (0, .ref θ.1)]) K d12_keepsAct_34 rfl (by rw [e13]; rfl) (by decide) rfl ?_
      refine j_goto (tgt := 12) K d12_keepsAct_37 (by decide) ?_
      refine j_sub [1, 0] rfl ?_
      exact ih v13 μ12 h
def p12_keepsAct (N : Nat)  (μ : Mz) : Option (Mz) := if (gi 16 μ) = 20 then b12_keepsAct_12 N N 33 μ else b12_keepsAct_52 N N 0 μ
set_option maxHeartbeats 4000000 in
set_option maxRecDepth 100000 in
theorem c12_keepsAct_ok (l : Launch) (D : va_G) (θ : Th) (N : Nat)  (μ : Mz) (ρ : Mz) (h : p12_keepsAct N  μ = some ρ) : CMv l D θ y12_keepsAct c12_keepsAct 2 none 1 [] μ ρ := by
  intro sz
  refine j_met l [.ref θ.1] (by decide +kernel) (Nat.le_of_ble_eq_true rfl) ?_
  intro p e s m args below meth c K hr hlk hnm hs
  generalize va_A (wM θ μ) sz = A at K ⊢
  have K : KM p s m args c c12_keepsAct 2 y12_keepsAct none D θ A := K
  show JM p l e s m args below meth c D θ A 1 2 (QMv below args s D θ A ρ) μ [(0, .ref θ.1)] [] 0
  unfold p12_keepsAct at h
  refine j_aload_n K 0 d12_keepsAct_0 rfl rfl ?_
  refine mg_undone K d12_keepsAct_1 ?_
  refine j_bipush (v := 20) K d12_keepsAct_4 (by decide) ?_
  refine j_icmp_ne (tgt := 50) K d12_keepsAct_6 (by decide) (fun q => ?_) (fun q => ?_)
  · have h := if_f h q
    refine j_iconst (v := 0) K d12_keepsAct_50 (by decide) ?_
    refine j_istore_n (lv' := [(1, .int 0), (0, .ref θ.1)]) K d12_keepsAct_51 rfl (by decide) rfl ?_
    refine j_sub [1, 0] rfl ?_
    exact t12_keepsAct_52 K hr hlk N ρ N 0 μ h
  · have h := if_t h q
    refine j_bipush (v := 33) K d12_keepsAct_9 (by decide) ?_
    refine j_istore_n (lv' := [(1, .int 33), (0, .ref θ.1)]) K d12_keepsAct_11 rfl (by decide) rfl ?_
    refine j_sub [1, 0] rfl ?_
    exact t12_keepsAct_12 K hr hlk N ρ N 33 μ h
