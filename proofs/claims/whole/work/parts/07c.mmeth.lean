def b12_undo_21 (N : Nat) : Nat → Int32 → Mz → Option (Int32 × Mz)
  | 0, _, _ => none
  | n + 1, x1, μ => if 33 ≤ x1 then some (gi 16 μ, μ) else lt ((33 * (gi 16 μ)) + x1) (fun v2 => ck (inb v2 660) (lt (ga 8 μ v2.toNatClampNeg) (fun v4 => ck (inb (10 + x1) 129) (lt (sa 7 (upd (ga 7 μ) (10 + x1).toNatClampNeg v4) μ) (fun μ6 => lt (x1 + 1) (fun v7 => b12_undo_21 N n v7 μ6))))))
set_option maxHeartbeats 4000000 in
set_option maxRecDepth 100000 in
theorem t12_undo_21 {p : Program} {l : Launch} {e : Env} {s : State} {m : MethodId} {args : Array Value} {below : List Frame} {meth : Method} {c : Code} {D : va_G} {θ : Th} {A : Nat → Prop} (K : KM p s m args c c12_undo 2 y12_undo (some .int) D θ A) (hr : meth.sig.returnType = (some .int)) (hlk : meth.locks = false) (N : Nat) (ρ : Int32 × Mz) : ∀ (n : Nat) (x1 : Int32) (μ : Mz), b12_undo_21 N n x1 μ = some ρ → JM p l e s m args below meth c D θ A 1 2 (QMi below args s D θ A ρ) μ [(0, .ref θ.1), (1, .int x1)] [] 21 := by
  intro n
  induction n with
  | zero =>
    intro x1 μ h
    exact absurd h (by simp [b12_undo_21])
  | succ n ih =>
    intro x1 μ h
    rw [b12_undo_21] at h
    refine j_iload_n K 1 d12_undo_21 rfl rfl ?_
    refine j_bipush (v := 33) K d12_undo_22 (by decide) ?_
    refine j_icmp_ge (tgt := 56) K d12_undo_24 (by decide) (fun q => ?_) (fun q => ?_)
    · have h := if_t h q
      refine j_aload_n K 0 d12_undo_56 rfl rfl ?_
      refine mg_undone K d12_undo_57 ?_
      exact mret_i K h hr hlk d12_undo_60
    · have h := if_f h q
      refine j_aload_n K 0 d12_undo_27 rfl rfl ?_
      refine mg_said K d12_undo_28 ?_
      refine j_bipush (v := 10) K d12_undo_31 (by decide) ?_
      refine j_iload_n K 1 d12_undo_33 rfl rfl ?_
      refine j_iadd K d12_undo_34 ?_
      refine j_aload_n K 0 d12_undo_35 rfl rfl ?_
      refine mg_wasSaid K d12_undo_36 ?_
      refine j_bipush (v := 33) K d12_undo_39 (by decide) ?_
      refine j_aload_n K 0 d12_undo_41 rfl rfl ?_
      refine mg_undone K d12_undo_42 ?_
      refine j_imul K d12_undo_45 ?_
      refine j_iload_n K 1 d12_undo_46 rfl rfl ?_
      refine j_iadd K d12_undo_47 ?_
      obtain ⟨v2, e2, h⟩ := lt_e h
      refine j_eqi e2 ?_
      obtain ⟨q3, h⟩ := ck_e h
      refine ml_wasSaid K (inb_e q3) d12_undo_48 ?_
      obtain ⟨v4, e4, h⟩ := lt_e h
      refine j_eqi e4 ?_
      obtain ⟨q5, h⟩ := ck_e h
      obtain ⟨μ6, e6, h⟩ := lt_e h
      refine ms_said K (inb_e q5) d12_undo_49 e6 ?_
      obtain ⟨v7, e7, h⟩ := lt_e h
      refine j_iinc (k := 1) (v := v7) (lv' := [(1, .int v7), (0, .ref θ.1)]) K d12_undo_50 rfl (by rw [e7]; rfl) (by decide) rfl ?_
      refine j_goto (tgt := 21) K d12_undo_53 (by decide) ?_
      refine j_sub [1, 0] rfl ?_
      exact ih v7 μ6 h
def p12_undo (N : Nat)  (μ : Mz) : Option (Int32 × Mz) := if (gi 16 μ) = 0 then some ((-1), μ) else lt (si 16 ((gi 16 μ) - 1) μ) (fun μ1 => b12_undo_21 N N 0 μ1)
set_option maxHeartbeats 4000000 in
set_option maxRecDepth 100000 in
theorem c12_undo_ok (l : Launch) (D : va_G) (θ : Th) (N : Nat)  (μ : Mz) (ρ : Int32 × Mz) (h : p12_undo N  μ = some ρ) : CMi l D θ y12_undo c12_undo 2 (some .int) 1 [] μ ρ := by
  intro sz
  refine j_met l [.ref θ.1] (by decide +kernel) (Nat.le_of_ble_eq_true rfl) ?_
  intro p e s m args below meth c K hr hlk hnm hs
  generalize va_A (wM θ μ) sz = A at K ⊢
  have K : KM p s m args c c12_undo 2 y12_undo (some .int) D θ A := K
  show JM p l e s m args below meth c D θ A 1 2 (QMi below args s D θ A ρ) μ [(0, .ref θ.1)] [] 0
  unfold p12_undo at h
  refine j_aload_n K 0 d12_undo_0 rfl rfl ?_
  refine mg_undone K d12_undo_1 ?_
  refine j_if_ne (tgt := 9) K d12_undo_4 (by decide) (fun q => ?_) (fun q => ?_)
  · have h := if_f h q
    refine j_aload_n K 0 d12_undo_9 rfl rfl ?_
    refine j_dup K d12_undo_10 rfl ?_
    refine mg_undone K d12_undo_11 ?_
    refine j_iconst (v := 1) K d12_undo_14 (by decide) ?_
    refine j_isub K d12_undo_15 ?_
    obtain ⟨μ1, e1, h⟩ := lt_e h
    refine mp_undone K d12_undo_16 e1 ?_
    refine j_iconst (v := 0) K d12_undo_19 (by decide) ?_
    refine j_istore_n (lv' := [(1, .int 0), (0, .ref θ.1)]) K d12_undo_20 rfl (by decide) rfl ?_
    refine j_sub [1, 0] rfl ?_
    exact t12_undo_21 K hr hlk N ρ N 0 μ1 h
  · have h := if_t h q
    refine j_iconst (v := (-1)) K d12_undo_7 (by decide) ?_
    exact mret_i K h hr hlk d12_undo_8
def b12_keeps_2 (N : Nat) : Nat → Int32 → Mz → Option (Mz)
  | 0, _, _ => none
  | n + 1, x1, μ => if 33 ≤ x1 then some μ else lt (10 + x1) (fun v1 => ck (inb v1 129) (lt (ga 7 μ v1.toNatClampNeg) (fun v3 => ck (inb x1 33) (lt (sa 9 (upd (ga 9 μ) x1.toNatClampNeg v3) μ) (fun μ5 => lt (x1 + 1) (fun v6 => b12_keeps_2 N n v6 μ5))))))
set_option maxHeartbeats 4000000 in
set_option maxRecDepth 100000 in
theorem t12_keeps_2 {p : Program} {l : Launch} {e : Env} {s : State} {m : MethodId} {args : Array Value} {below : List Frame} {meth : Method} {c : Code} {D : va_G} {θ : Th} {A : Nat → Prop} (K : KM p s m args c c12_keeps 2 y12_keeps none D θ A) (hr : meth.sig.returnType = none) (hlk : meth.locks = false) (N : Nat) (ρ : Mz) : ∀ (n : Nat) (x1 : Int32) (μ : Mz), b12_keeps_2 N n x1 μ = some ρ → JM p l e s m args below meth c D θ A 1 2 (QMv below args s D θ A ρ) μ [(0, .ref θ.1), (1, .int x1)] [] 2 := by
  intro n
  induction n with
  | zero =>
    intro x1 μ h
    exact absurd h (by simp [b12_keeps_2])
  | succ n ih =>
    intro x1 μ h
    rw [b12_keeps_2] at h
    refine j_iload_n K 1 d12_keeps_2 rfl rfl ?_
    refine j_bipush (v := 33) K d12_keeps_3 (by decide) ?_
    refine j_icmp_ge (tgt := 29) K d12_keeps_5 (by decide) (fun q => ?_) (fun q => ?_)
    · have h := if_t h q
      exact mret_v K h hr hlk d12_keeps_29
    · have h := if_f h q
      refine j_aload_n K 0 d12_keeps_8 rfl rfl ?_
      refine mg_kept K d12_keeps_9 ?_
      refine j_iload_n K 1 d12_keeps_12 rfl rfl ?_
      refine j_aload_n K 0 d12_keeps_13 rfl rfl ?_
      refine mg_said K d12_keeps_14 ?_
      refine j_bipush (v := 10) K d12_keeps_17 (by decide) ?_
      refine j_iload_n K 1 d12_keeps_19 rfl rfl ?_
      refine j_iadd K d12_keeps_20 ?_
      obtain ⟨v1, e1, h⟩ := lt_e h
      refine j_eqi e1 ?_
      obtain ⟨q2, h⟩ := ck_e h
      refine ml_said K (inb_e q2) d12_keeps_21 ?_
      obtain ⟨v3, e3, h⟩ := lt_e h
      refine j_eqi e3 ?_
      obtain ⟨q4, h⟩ := ck_e h
      obtain ⟨μ5, e5, h⟩ := lt_e h
      refine ms_kept K (inb_e q4) d12_keeps_22 e5 ?_
      obtain ⟨v6, e6, h⟩ := lt_e h
      refine j_iinc (k := 1) (v := v6) (lv' := [(1, .int v6), (0, .ref θ.1)]) K d12_keeps_23 rfl (by rw [e6]; rfl) (by decide) rfl ?_
      refine j_goto (tgt := 2) K d12_keeps_26 (by decide) ?_
      refine j_sub [1, 0] rfl ?_
      exact ih v6 μ5 h
def p12_keeps (N : Nat)  (μ : Mz) : Option (Mz) := b12_keeps_2 N N 0 μ
set_option maxHeartbeats 4000000 in
set_option maxRecDepth 100000 in
theorem c12_keeps_ok (l : Launch) (D : va_G) (θ : Th) (N : Nat)  (μ : Mz) (ρ : Mz) (h : p12_keeps N  μ = some ρ) : CMv l D θ y12_keeps c12_keeps 2 none 1 [] μ ρ := by
  intro sz
  refine j_met l [.ref θ.1] (by decide +kernel) (Nat.le_of_ble_eq_true rfl) ?_
  intro p e s m args below meth c K hr hlk hnm hs
  generalize va_A (wM θ μ) sz = A at K ⊢
  have K : KM p s m args c c12_keeps 2 y12_keeps none D θ A := K
  show JM p l e s m args below meth c D θ A 1 2 (QMv below args s D θ A ρ) μ [(0, .ref θ.1)] [] 0
  unfold p12_keeps at h
  refine j_iconst (v := 0) K d12_keeps_0 (by decide) ?_
  refine j_istore_n (lv' := [(1, .int 0), (0, .ref θ.1)]) K d12_keeps_1 rfl (by decide) rfl ?_
  refine j_sub [1, 0] rfl ?_
  exact t12_keeps_2 K hr hlk N ρ N 0 μ h
def b12_laysBack_2 (N : Nat) : Nat → Int32 → Mz → Option (Mz)
  | 0, _, _ => none
  | n + 1, x1, μ => if 33 ≤ x1 then some μ else ck (inb x1 33) (lt (ga 9 μ x1.toNatClampNeg) (fun v2 => ck (inb (10 + x1) 129) (lt (sa 7 (upd (ga 7 μ) (10 + x1).toNatClampNeg v2) μ) (fun μ4 => lt (x1 + 1) (fun v5 => b12_laysBack_2 N n v5 μ4)))))
set_option maxHeartbeats 4000000 in
set_option maxRecDepth 100000 in
theorem t12_laysBack_2 {p : Program} {l : Launch} {e : Env} {s : State} {m : MethodId} {args : Array Value} {below : List Frame} {meth : Method} {c : Code} {D : va_G} {θ : Th} {A : Nat → Prop} (K : KM p s m args c c12_laysBack 2 y12_laysBack none D θ A) (hr : meth.sig.returnType = none) (hlk : meth.locks = false) (N : Nat) (ρ : Mz) : ∀ (n : Nat) (x1 : Int32) (μ : Mz), b12_laysBack_2 N n x1 μ = some ρ → JM p l e s m args below meth c D θ A 1 2 (QMv below args s D θ A ρ) μ [(0, .ref θ.1), (1, .int x1)] [] 2 := by
  intro n
  induction n with
  | zero =>
    intro x1 μ h
    exact absurd h (by simp [b12_laysBack_2])
  | succ n ih =>
    intro x1 μ h
    rw [b12_laysBack_2] at h
    refine j_iload_n K 1 d12_laysBack_2 rfl rfl ?_
    refine j_bipush (v := 33) K d12_laysBack_3 (by decide) ?_
    refine j_icmp_ge (tgt := 29) K d12_laysBack_5 (by decide) (fun q => ?_) (fun q => ?_)
    · have h := if_t h q
      exact mret_v K h hr hlk d12_laysBack_29
    · have h := if_f h q
      refine j_aload_n K 0 d12_laysBack_8 rfl rfl ?_
      refine mg_said K d12_laysBack_9 ?_
      refine j_bipush (v := 10) K d12_laysBack_12 (by decide) ?_
      refine j_iload_n K 1 d12_laysBack_14 rfl rfl ?_
      refine j_iadd K d12_laysBack_15 ?_
      refine j_aload_n K 0 d12_laysBack_16 rfl rfl ?_
      refine mg_kept K d12_laysBack_17 ?_
      refine j_iload_n K 1 d12_laysBack_20 rfl rfl ?_
      obtain ⟨q1, h⟩ := ck_e h
      refine ml_kept K (inb_e q1) d12_laysBack_21 ?_
      obtain ⟨v2, e2, h⟩ := lt_e h
      refine j_eqi e2 ?_
      obtain ⟨q3, h⟩ := ck_e h
      obtain ⟨μ4, e4, h⟩ := lt_e h
      refine ms_said K (inb_e q3) d12_laysBack_22 e4 ?_
      obtain ⟨v5, e5, h⟩ := lt_e h
      refine j_iinc (k := 1) (v := v5) (lv' := [(1, .int v5), (0, .ref θ.1)]) K d12_laysBack_23 rfl (by rw [e5]; rfl) (by decide) rfl ?_
      refine j_goto (tgt := 2) K d12_laysBack_26 (by decide) ?_
      refine j_sub [1, 0] rfl ?_
      exact ih v5 μ4 h
def p12_laysBack (N : Nat)  (μ : Mz) : Option (Mz) := b12_laysBack_2 N N 0 μ
set_option maxHeartbeats 4000000 in
set_option maxRecDepth 100000 in
theorem c12_laysBack_ok (l : Launch) (D : va_G) (θ : Th) (N : Nat)  (μ : Mz) (ρ : Mz) (h : p12_laysBack N  μ = some ρ) : CMv l D θ y12_laysBack c12_laysBack 2 none 1 [] μ ρ := by
  intro sz
  refine j_met l [.ref θ.1] (by decide +kernel) (Nat.le_of_ble_eq_true rfl) ?_
  intro p e s m args below meth c K hr hlk hnm hs
  generalize va_A (wM θ μ) sz = A at K ⊢
  have K : KM p s m args c c12_laysBack 2 y12_laysBack none D θ A := K
  show JM p l e s m args below meth c D θ A 1 2 (QMv below args s D θ A ρ) μ [(0, .ref θ.1)] [] 0
  unfold p12_laysBack at h
  refine j_iconst (v := 0) K d12_laysBack_0 (by decide) ?_
  refine j_istore_n (lv' := [(1, .int 0), (0, .ref θ.1)]) K d12_laysBack_1 rfl (by decide) rfl ?_
  refine j_sub [1, 0] rfl ?_
  exact t12_laysBack_2 K hr hlk N ρ N 0 μ h
def b12_nextRow_38 (N : Nat) (x2 : Int32) (μ : Mz) : Option (Int32 × Mz) := if 0 ≤ x2 then ck (inb x2 4) (lt ((ga 10 μ x2.toNatClampNeg) + 1) (fun v3 => ck (inb x2 4) (lt (sa 10 (upd (ga 10 μ) x2.toNatClampNeg v3) μ) (fun μ5 => some (1, μ5))))) else some (0, μ)
set_option maxHeartbeats 4000000 in
set_option maxRecDepth 100000 in
theorem t12_nextRow_38 {p : Program} {l : Launch} {e : Env} {s : State} {m : MethodId} {args : Array Value} {below : List Frame} {meth : Method} {c : Code} {D : va_G} {θ : Th} {A : Nat → Prop} (K : KM p s m args c c12_nextRow 3 y12_nextRow (some .boolean) D θ A) (hr : meth.sig.returnType = (some .boolean)) (hlk : meth.locks = false) (N : Nat) (ρ : Int32 × Mz) (x2 : Int32) (μ : Mz) (h : b12_nextRow_38 N x2 μ = some ρ) : JM p l e s m args below meth c D θ A 1 3 (QMi below args s D θ A ρ) μ [(0, .ref θ.1), (2, .int x2)] [] 38 := by
  unfold b12_nextRow_38 at h
  refine j_iload_n K 1 d12_nextRow_38 rfl rfl ?_
  refine j_if_ge (tgt := 44) K d12_nextRow_39 (by decide) (fun q => ?_) (fun q => ?_)
  · have h := if_t h q
    refine j_aload_n K 0 d12_nextRow_44 rfl rfl ?_
    refine mg_rowNow K d12_nextRow_45 ?_
    refine j_iload_n K 1 d12_nextRow_48 rfl rfl ?_
    refine j_dup2 K d12_nextRow_49 rfl rfl ?_
    obtain ⟨q2, h⟩ := ck_e h
    refine ml_rowNow K (inb_e q2) d12_nextRow_50 ?_
    refine j_iconst (v := 1) K d12_nextRow_51 (by decide) ?_
    refine j_iadd K d12_nextRow_52 ?_
    obtain ⟨v3, e3, h⟩ := lt_e h
    refine j_eqi e3 ?_
    obtain ⟨q4, h⟩ := ck_e h
    obtain ⟨μ5, e5, h⟩ := lt_e h
    refine ms_rowNow K (inb_e q4) d12_nextRow_53 e5 ?_
    refine j_iconst (v := 1) K d12_nextRow_54 (by decide) ?_
    exact mret_z K h rfl hr hlk d12_nextRow_55
  · have h := if_f h q
    refine j_iconst (v := 0) K d12_nextRow_42 (by decide) ?_
    exact mret_z K h rfl hr hlk d12_nextRow_43
def b12_nextRow_4 (N : Nat) : Nat → Int32 → Mz → Option (Int32 × Mz)
  | 0, _, _ => none
  | n + 1, x2, μ => if x2 < 0 then b12_nextRow_38 N x2 μ else ck (inb x2 4) (if (ga 10 μ x2.toNatClampNeg) = ((ga 7 μ (3 : Int32).toNatClampNeg) - 1) then ck (inb x2 4) (lt (sa 10 (upd (ga 10 μ) x2.toNatClampNeg (-1)) μ) (fun μ8 => lt (x2 + (-1)) (fun v9 => b12_nextRow_4 N n v9 μ8))) else b12_nextRow_38 N x2 μ)
set_option maxHeartbeats 4000000 in
set_option maxRecDepth 100000 in
theorem t12_nextRow_4 {p : Program} {l : Launch} {e : Env} {s : State} {m : MethodId} {args : Array Value} {below : List Frame} {meth : Method} {c : Code} {D : va_G} {θ : Th} {A : Nat → Prop} (K : KM p s m args c c12_nextRow 3 y12_nextRow (some .boolean) D θ A) (hr : meth.sig.returnType = (some .boolean)) (hlk : meth.locks = false) (N : Nat) (ρ : Int32 × Mz) : ∀ (n : Nat) (x2 : Int32) (μ : Mz), b12_nextRow_4 N n x2 μ = some ρ → JM p l e s m args below meth c D θ A 1 3 (QMi below args s D θ A ρ) μ [(0, .ref θ.1), (2, .int x2)] [] 4 := by
  intro n
  induction n with
  | zero =>
    intro x2 μ h
    exact absurd h (by simp [b12_nextRow_4])
  | succ n ih =>
    intro x2 μ h
    rw [b12_nextRow_4] at h
    refine j_iload_n K 1 d12_nextRow_4 rfl rfl ?_
    refine j_if_lt (tgt := 38) K d12_nextRow_5 (by decide) (fun q => ?_) (fun q => ?_)
    · have h := if_t h q
      exact t12_nextRow_38 K hr hlk N ρ x2 μ h
    · have h := if_f h q
      refine j_aload_n K 0 d12_nextRow_8 rfl rfl ?_
      refine mg_rowNow K d12_nextRow_9 ?_
      refine j_iload_n K 1 d12_nextRow_12 rfl rfl ?_
      obtain ⟨q6, h⟩ := ck_e h
      refine ml_rowNow K (inb_e q6) d12_nextRow_13 ?_
      refine j_aload_n K 0 d12_nextRow_14 rfl rfl ?_
      refine mg_said K d12_nextRow_15 ?_
      refine j_iconst (v := 3) K d12_nextRow_18 (by decide) ?_
      refine ml_said K (inb_e (by decide)) d12_nextRow_19 ?_
      refine j_iconst (v := 1) K d12_nextRow_20 (by decide) ?_
      refine j_isub K d12_nextRow_21 ?_
      refine j_icmp_ne (tgt := 38) K d12_nextRow_22 (by decide) (fun q => ?_) (fun q => ?_)
      · have h := if_f h q
        exact t12_nextRow_38 K hr hlk N ρ x2 μ h
      · have h := if_t h q
        refine j_aload_n K 0 d12_nextRow_25 rfl rfl ?_
        refine mg_rowNow K d12_nextRow_26 ?_
        refine j_iload_n K 1 d12_nextRow_29 rfl rfl ?_
        refine j_iconst (v := (-1)) K d12_nextRow_30 (by decide) ?_
        obtain ⟨q7, h⟩ := ck_e h
        obtain ⟨μ8, e8, h⟩ := lt_e h
        refine ms_rowNow K (inb_e q7) d12_nextRow_31 e8 ?_
        obtain ⟨v9, e9, h⟩ := lt_e h
        refine j_iinc (k := 1) (v := v9) (lv' := [(2, .int v9), (0, .ref θ.1)]) K d12_nextRow_32 rfl (by rw [e9]; rfl) (by decide) rfl ?_
        refine j_goto (tgt := 4) K d12_nextRow_35 (by decide) ?_
        refine j_sub [1, 0] rfl ?_
        exact ih v9 μ8 h
def p12_nextRow (N : Nat) (a1 : Int32) (μ : Mz) : Option (Int32 × Mz) := lt (a1 - 1) (fun v1 => b12_nextRow_4 N N v1 μ)
set_option maxHeartbeats 4000000 in
set_option maxRecDepth 100000 in
theorem c12_nextRow_ok (l : Launch) (D : va_G) (θ : Th) (N : Nat) (a1 : Int32) (μ : Mz) (ρ : Int32 × Mz) (h : p12_nextRow N a1 μ = some ρ) : CMi l D θ y12_nextRow c12_nextRow 3 (some .boolean) 1 [.int a1] μ ρ := by
  intro sz
  refine j_met l [.ref θ.1, .int a1] (by decide +kernel) (Nat.le_of_ble_eq_true rfl) ?_
  intro p e s m args below meth c K hr hlk hnm hs
  generalize va_A (wM θ μ) sz = A at K ⊢
  have K : KM p s m args c c12_nextRow 3 y12_nextRow (some .boolean) D θ A := K
  show JM p l e s m args below meth c D θ A 1 3 (QMi below args s D θ A ρ) μ [(0, .ref θ.1), (1, .int a1)] [] 0
  unfold p12_nextRow at h
  refine j_iload_n K 1 d12_nextRow_0 rfl rfl ?_
  refine j_iconst (v := 1) K d12_nextRow_1 (by decide) ?_
  refine j_isub K d12_nextRow_2 ?_
  obtain ⟨v1, e1, h⟩ := lt_e h
  refine j_eqi e1 ?_
  refine j_istore_n (lv' := [(2, .int v1), (0, .ref θ.1), (1, .int a1)]) K d12_nextRow_3 rfl (by decide) rfl ?_
  refine j_sub [1, 0] rfl ?_
  exact t12_nextRow_4 K hr hlk N ρ N v1 μ h
def b12_alikeFrom_2 (N : Nat) : Nat → Int32 → Int32 → Int32 → Mz → Option (Int32 × Mz)
  | 0, _, _, _, _ => none
  | n + 1, x1, x2, x3, μ => if (ga 7 μ (3 : Int32).toNatClampNeg) ≤ (x2 + x3) then some (x3, μ) else lt ((13 + x1) + x3) (fun v1 => ck (inb v1 129) (lt ((13 + x2) + x3) (fun v3 => ck (inb v3 129) (if (ga 7 μ v1.toNatClampNeg) = (ga 7 μ v3.toNatClampNeg) then lt (x3 + 1) (fun v5 => b12_alikeFrom_2 N n x1 x2 v5 μ) else some (x3, μ)))))
set_option maxHeartbeats 4000000 in
set_option maxRecDepth 100000 in
theorem t12_alikeFrom_2 {p : Program} {l : Launch} {e : Env} {s : State} {m : MethodId} {args : Array Value} {below : List Frame} {meth : Method} {c : Code} {D : va_G} {θ : Th} {A : Nat → Prop} (K : KM p s m args c c12_alikeFrom 4 y12_alikeFrom (some .int) D θ A) (hr : meth.sig.returnType = (some .int)) (hlk : meth.locks = false) (N : Nat) (ρ : Int32 × Mz) : ∀ (n : Nat) (x1 : Int32) (x2 : Int32) (x3 : Int32) (μ : Mz), b12_alikeFrom_2 N n x1 x2 x3 μ = some ρ → JM p l e s m args below meth c D θ A 1 4 (QMi below args s D θ A ρ) μ [(0, .ref θ.1), (1, .int x1), (2, .int x2), (3, .int x3)] [] 2 := by
  intro n
  induction n with
  | zero =>
    intro x1 x2 x3 μ h
    exact absurd h (by simp [b12_alikeFrom_2])
  | succ n ih =>
    intro x1 x2 x3 μ h
    rw [b12_alikeFrom_2] at h
    refine j_iload_n K 2 d12_alikeFrom_2 rfl rfl ?_
    refine j_iload_n K 3 d12_alikeFrom_3 rfl rfl ?_
    refine j_iadd K d12_alikeFrom_4 ?_
    refine j_aload_n K 0 d12_alikeFrom_5 rfl rfl ?_
    refine mg_said K d12_alikeFrom_6 ?_
    refine j_iconst (v := 3) K d12_alikeFrom_9 (by decide) ?_
    refine ml_said K (inb_e (by decide)) d12_alikeFrom_10 ?_
    refine j_icmp_ge (tgt := 45) K d12_alikeFrom_11 (by decide) (fun q => ?_) (fun q => ?_)
    · have h := if_t h q
      refine j_iload_n K 3 d12_alikeFrom_45 rfl rfl ?_
      exact mret_i K h hr hlk d12_alikeFrom_46
    · have h := if_f h q
      refine j_aload_n K 0 d12_alikeFrom_14 rfl rfl ?_
      refine mg_said K d12_alikeFrom_15 ?_
      refine j_bipush (v := 13) K d12_alikeFrom_18 (by decide) ?_
      refine j_iload_n K 1 d12_alikeFrom_20 rfl rfl ?_
      refine j_iadd K d12_alikeFrom_21 ?_
      refine j_iload_n K 3 d12_alikeFrom_22 rfl rfl ?_
      refine j_iadd K d12_alikeFrom_23 ?_
      obtain ⟨v1, e1, h⟩ := lt_e h
      refine j_eqi e1 ?_
      obtain ⟨q2, h⟩ := ck_e h
      refine ml_said K (inb_e q2) d12_alikeFrom_24 ?_
      refine j_aload_n K 0 d12_alikeFrom_25 rfl rfl ?_
      refine mg_said K d12_alikeFrom_26 ?_
      refine j_bipush (v := 13) K d12_alikeFrom_29 (by decide) ?_
      refine j_iload_n K 2 d12_alikeFrom_31 rfl rfl ?_
      refine j_iadd K d12_alikeFrom_32 ?_
      refine j_iload_n K 3 d12_alikeFrom_33 rfl rfl ?_
      refine j_iadd K d12_alikeFrom_34 ?_
      obtain ⟨v3, e3, h⟩ := lt_e h
      refine j_eqi e3 ?_
      obtain ⟨q4, h⟩ := ck_e h
      refine ml_said K (inb_e q4) d12_alikeFrom_35 ?_
      refine j_icmp_ne (tgt := 45) K d12_alikeFrom_36 (by decide) (fun q => ?_) (fun q => ?_)
      · have h := if_f h q
        refine j_iload_n K 3 d12_alikeFrom_45 rfl rfl ?_
        exact mret_i K h hr hlk d12_alikeFrom_46
      · have h := if_t h q
        obtain ⟨v5, e5, h⟩ := lt_e h
        refine j_iinc (k := 3) (v := v5) (lv' := [(3, .int v5), (0, .ref θ.1), (1, .int x1), (2, .int x2)]) K d12_alikeFrom_39 rfl (by rw [e5]; rfl) (by decide) rfl ?_
        refine j_goto (tgt := 2) K d12_alikeFrom_42 (by decide) ?_
        refine j_sub [1, 2, 3, 0] rfl ?_
        exact ih x1 x2 v5 μ h
def p12_alikeFrom (N : Nat) (a1 : Int32) (a2 : Int32) (μ : Mz) : Option (Int32 × Mz) := b12_alikeFrom_2 N N a1 a2 0 μ
set_option maxHeartbeats 4000000 in
set_option maxRecDepth 100000 in
theorem c12_alikeFrom_ok (l : Launch) (D : va_G) (θ : Th) (N : Nat) (a1 : Int32) (a2 : Int32) (μ : Mz) (ρ : Int32 × Mz) (h : p12_alikeFrom N a1 a2 μ = some ρ) : CMi l D θ y12_alikeFrom c12_alikeFrom 4 (some .int) 1 [.int a1, .int a2] μ ρ := by
  intro sz
  refine j_met l [.ref θ.1, .int a1, .int a2] (by decide +kernel) (Nat.le_of_ble_eq_true rfl) ?_
  intro p e s m args below meth c K hr hlk hnm hs
  generalize va_A (wM θ μ) sz = A at K ⊢
  have K : KM p s m args c c12_alikeFrom 4 y12_alikeFrom (some .int) D θ A := K
  show JM p l e s m args below meth c D θ A 1 4 (QMi below args s D θ A ρ) μ [(0, .ref θ.1), (1, .int a1), (2, .int a2)] [] 0
  unfold p12_alikeFrom at h
  refine j_iconst (v := 0) K d12_alikeFrom_0 (by decide) ?_
  refine j_istore_n (lv' := [(3, .int 0), (0, .ref θ.1), (1, .int a1), (2, .int a2)]) K d12_alikeFrom_1 rfl (by decide) rfl ?_
  refine j_sub [1, 2, 3, 0] rfl ?_
  exact t12_alikeFrom_2 K hr hlk N ρ N a1 a2 0 μ h
def p12_lesser (N : Nat) (a1 : Int32) (a2 : Int32) : Option (Int32) := if a2 ≤ a1 then some a2 else some a1
set_option maxHeartbeats 4000000 in
set_option maxRecDepth 100000 in
theorem c12_lesser_ok (l : Launch) (D : va_G) (θ : Th) (N : Nat) (a1 : Int32) (a2 : Int32) (ρ : Int32) (h : p12_lesser N a1 a2 = some ρ) : CSi l D θ y12_lesser c12_lesser 2 (some .int) 1 [.int a1, .int a2] ρ := by
  intro sz
  refine j_met l [.int a1, .int a2] (by decide +kernel) (Nat.le_of_ble_eq_true rfl) ?_
  intro p e s m args below meth c K hr hlk hnm hs
  generalize va_A ([] : va_W) sz = A at K ⊢
  have K : KM p s m args c c12_lesser 2 y12_lesser (some .int) D θ A := K
  show JS p l e s m args below meth c D θ A 1 2 (QSi below args s D θ A ρ) [(0, .int a1), (1, .int a2)] [] 0
  unfold p12_lesser at h
  refine j_iload_n K 0 d12_lesser_0 rfl rfl ?_
  refine j_iload_n K 1 d12_lesser_1 rfl rfl ?_
  refine j_icmp_ge (tgt := 9) K d12_lesser_2 (by decide) (fun q => ?_) (fun q => ?_)
  · have h := if_t h q
    refine j_iload_n K 1 d12_lesser_9 rfl rfl ?_
    exact sret_i K h hr hlk d12_lesser_10
  · have h := if_f h q
    refine j_iload_n K 0 d12_lesser_5 rfl rfl ?_
    refine j_goto (tgt := 10) K d12_lesser_6 (by decide) ?_
    exact sret_i K h hr hlk d12_lesser_10
def b12_isRest_2 (N : Nat) : Nat → Int32 → Int32 → Int32 → Mz → Option (Int32 × Mz)
  | 0, _, _, _, _ => none
  | n + 1, x1, x2, x3, μ => if 8 ≤ x3 then some (1, μ) else lt (2 * ((8 * x3) + x2)) (fun v1 => ck (inb v1 128) (lt (2 * ((8 * x1) + x2)) (fun v3 => ck (inb v3 128) (if (ga 13 μ v3.toNatClampNeg) < (ga 13 μ v1.toNatClampNeg) then some (0, μ) else lt ((2 * ((8 * x1) + x3)) + 1) (fun v5 => ck (inb v5 128) (lt ((2 * ((8 * x1) + x2)) + 1) (fun v7 => ck (inb v7 128) (if (ga 13 μ v5.toNatClampNeg) ≤ (ga 13 μ v7.toNatClampNeg) then lt (x3 + 1) (fun v9 => b12_isRest_2 N n x1 x2 v9 μ) else some (0, μ)))))))))
set_option maxHeartbeats 4000000 in
set_option maxRecDepth 100000 in
theorem t12_isRest_2 {p : Program} {l : Launch} {e : Env} {s : State} {m : MethodId} {args : Array Value} {below : List Frame} {meth : Method} {c : Code} {D : va_G} {θ : Th} {A : Nat → Prop} (K : KM p s m args c c12_isRest 4 y12_isRest (some .boolean) D θ A) (hr : meth.sig.returnType = (some .boolean)) (hlk : meth.locks = false) (N : Nat) (ρ : Int32 × Mz) : ∀ (n : Nat) (x1 : Int32) (x2 : Int32) (x3 : Int32) (μ : Mz), b12_isRest_2 N n x1 x2 x3 μ = some ρ → JM p l e s m args below meth c D θ A 1 4 (QMi below args s D θ A ρ) μ [(0, .ref θ.1), (1, .int x1), (2, .int x2), (3, .int x3)] [] 2 := by
  intro n
  induction n with
  | zero =>
    intro x1 x2 x3 μ h
    exact absurd h (by simp [b12_isRest_2])
  | succ n ih =>
    intro x1 x2 x3 μ h
    rw [b12_isRest_2] at h
    refine j_iload_n K 3 d12_isRest_2 rfl rfl ?_
    refine j_bipush (v := 8) K d12_isRest_3 (by decide) ?_
    refine j_icmp_ge (tgt := 78) K d12_isRest_5 (by decide) (fun q => ?_) (fun q => ?_)
    · have h := if_t h q
      refine j_iconst (v := 1) K d12_isRest_78 (by decide) ?_
      exact mret_z K h rfl hr hlk d12_isRest_79
    · have h := if_f h q
      refine j_aload_n K 0 d12_isRest_8 rfl rfl ?_
      refine mg_hasBy K d12_isRest_9 ?_
      refine j_iconst (v := 2) K d12_isRest_12 (by decide) ?_
      refine j_bipush (v := 8) K d12_isRest_13 (by decide) ?_
      refine j_iload_n K 3 d12_isRest_15 rfl rfl ?_
      refine j_imul K d12_isRest_16 ?_
      refine j_iload_n K 2 d12_isRest_17 rfl rfl ?_
      refine j_iadd K d12_isRest_18 ?_
      refine j_imul K d12_isRest_19 ?_
      obtain ⟨v1, e1, h⟩ := lt_e h
      refine j_eqi e1 ?_
      obtain ⟨q2, h⟩ := ck_e h
      refine ml_hasBy K (inb_e q2) d12_isRest_20 ?_
      refine j_aload_n K 0 d12_isRest_21 rfl rfl ?_
      refine mg_hasBy K d12_isRest_22 ?_
      refine j_iconst (v := 2) K d12_isRest_25 (by decide) ?_
      refine j_bipush (v := 8) K d12_isRest_26 (by decide) ?_
      refine j_iload_n K 1 d12_isRest_28 rfl rfl ?_
      refine j_imul K d12_isRest_29 ?_
      refine j_iload_n K 2 d12_isRest_30 rfl rfl ?_
      refine j_iadd K d12_isRest_31 ?_
      refine j_imul K d12_isRest_32 ?_
      obtain ⟨v3, e3, h⟩ := lt_e h
      refine j_eqi e3 ?_
      obtain ⟨q4, h⟩ := ck_e h
      refine ml_hasBy K (inb_e q4) d12_isRest_33 ?_
      refine j_icmp_gt (tgt := 70) K d12_isRest_34 (by decide) (fun q => ?_) (fun q => ?_)
      · have h := if_t h q
        refine j_iconst (v := 0) K d12_isRest_70 (by decide) ?_
        exact mret_z K h rfl hr hlk d12_isRest_71
      · have h := if_f h q
        refine j_aload_n K 0 d12_isRest_37 rfl rfl ?_
        refine mg_hasBy K d12_isRest_38 ?_
        refine j_iconst (v := 2) K d12_isRest_41 (by decide) ?_
        refine j_bipush (v := 8) K d12_isRest_42 (by decide) ?_
        refine j_iload_n K 1 d12_isRest_44 rfl rfl ?_
        refine j_imul K d12_isRest_45 ?_
        refine j_iload_n K 3 d12_isRest_46 rfl rfl ?_
        refine j_iadd K d12_isRest_47 ?_
        refine j_imul K d12_isRest_48 ?_
        refine j_iconst (v := 1) K d12_isRest_49 (by decide) ?_
        refine j_iadd K d12_isRest_50 ?_
        obtain ⟨v5, e5, h⟩ := lt_e h
        refine j_eqi e5 ?_
        obtain ⟨q6, h⟩ := ck_e h
        refine ml_hasBy K (inb_e q6) d12_isRest_51 ?_
        refine j_aload_n K 0 d12_isRest_52 rfl rfl ?_
        refine mg_hasBy K d12_isRest_53 ?_
        refine j_iconst (v := 2) K d12_isRest_56 (by decide) ?_
        refine j_bipush (v := 8) K d12_isRest_57 (by decide) ?_
        refine j_iload_n K 1 d12_isRest_59 rfl rfl ?_
        refine j_imul K d12_isRest_60 ?_
        refine j_iload_n K 2 d12_isRest_61 rfl rfl ?_
        refine j_iadd K d12_isRest_62 ?_
        refine j_imul K d12_isRest_63 ?_
        refine j_iconst (v := 1) K d12_isRest_64 (by decide) ?_
        refine j_iadd K d12_isRest_65 ?_
        obtain ⟨v7, e7, h⟩ := lt_e h
        refine j_eqi e7 ?_
        obtain ⟨q8, h⟩ := ck_e h
        refine ml_hasBy K (inb_e q8) d12_isRest_66 ?_
        refine j_icmp_le (tgt := 72) K d12_isRest_67 (by decide) (fun q => ?_) (fun q => ?_)
        · have h := if_t h q
          obtain ⟨v9, e9, h⟩ := lt_e h
          refine j_iinc (k := 3) (v := v9) (lv' := [(3, .int v9), (0, .ref θ.1), (1, .int x1), (2, .int x2)]) K d12_isRest_72 rfl (by rw [e9]; rfl) (by decide) rfl ?_
          refine j_goto (tgt := 2) K d12_isRest_75 (by decide) ?_
          refine j_sub [1, 2, 3, 0] rfl ?_
          exact ih x1 x2 v9 μ h
        · have h := if_f h q
          refine j_iconst (v := 0) K d12_isRest_70 (by decide) ?_
          exact mret_z K h rfl hr hlk d12_isRest_71
def p12_isRest (N : Nat) (a1 : Int32) (a2 : Int32) (μ : Mz) : Option (Int32 × Mz) := b12_isRest_2 N N a1 a2 0 μ
set_option maxHeartbeats 4000000 in
set_option maxRecDepth 100000 in
theorem c12_isRest_ok (l : Launch) (D : va_G) (θ : Th) (N : Nat) (a1 : Int32) (a2 : Int32) (μ : Mz) (ρ : Int32 × Mz) (h : p12_isRest N a1 a2 μ = some ρ) : CMi l D θ y12_isRest c12_isRest 4 (some .boolean) 1 [.int a1, .int a2] μ ρ := by
  intro sz
  refine j_met l [.ref θ.1, .int a1, .int a2] (by decide +kernel) (Nat.le_of_ble_eq_true rfl) ?_
  intro p e s m args below meth c K hr hlk hnm hs
  generalize va_A (wM θ μ) sz = A at K ⊢
  have K : KM p s m args c c12_isRest 4 y12_isRest (some .boolean) D θ A := K
  show JM p l e s m args below meth c D θ A 1 4 (QMi below args s D θ A ρ) μ [(0, .ref θ.1), (1, .int a1), (2, .int a2)] [] 0
  unfold p12_isRest at h
  refine j_iconst (v := 0) K d12_isRest_0 (by decide) ?_
  refine j_istore_n (lv' := [(3, .int 0), (0, .ref θ.1), (1, .int a1), (2, .int a2)]) K d12_isRest_1 rfl (by decide) rfl ?_
  refine j_sub [1, 2, 3, 0] rfl ?_
  exact t12_isRest_2 K hr hlk N ρ N a1 a2 0 μ h
def p12_getsNow (N : Nat) (a1 : Int32) (μ : Mz) : Option (Int32 × Mz) := some ((((gi 15 μ) >>> (a1 &&& 31)) &&& 1) - (((gi 14 μ) >>> (a1 &&& 31)) &&& 1), μ)
set_option maxHeartbeats 4000000 in
set_option maxRecDepth 100000 in
theorem c12_getsNow_ok (l : Launch) (D : va_G) (θ : Th) (N : Nat) (a1 : Int32) (μ : Mz) (ρ : Int32 × Mz) (h : p12_getsNow N a1 μ = some ρ) : CMi l D θ y12_getsNow c12_getsNow 2 (some .int) 1 [.int a1] μ ρ := by
  intro sz
  refine j_met l [.ref θ.1, .int a1] (by decide +kernel) (Nat.le_of_ble_eq_true rfl) ?_
  intro p e s m args below meth c K hr hlk hnm hs
  generalize va_A (wM θ μ) sz = A at K ⊢
  have K : KM p s m args c c12_getsNow 2 y12_getsNow (some .int) D θ A := K
  show JM p l e s m args below meth c D θ A 1 2 (QMi below args s D θ A ρ) μ [(0, .ref θ.1), (1, .int a1)] [] 0
  unfold p12_getsNow at h
  refine j_aload_n K 0 d12_getsNow_0 rfl rfl ?_
  refine mg_paidTo K d12_getsNow_1 ?_
  refine j_iload_n K 1 d12_getsNow_4 rfl rfl ?_
  refine j_ishr K d12_getsNow_5 ?_
  refine j_iconst (v := 1) K d12_getsNow_6 (by decide) ?_
  refine j_iand K d12_getsNow_7 ?_
  refine j_aload_n K 0 d12_getsNow_8 rfl rfl ?_
  refine mg_owedFor K d12_getsNow_9 ?_
  refine j_iload_n K 1 d12_getsNow_12 rfl rfl ?_
  refine j_ishr K d12_getsNow_13 ?_
  refine j_iconst (v := 1) K d12_getsNow_14 (by decide) ?_
  refine j_iand K d12_getsNow_15 ?_
  refine j_isub K d12_getsNow_16 ?_
  exact mret_i K h hr hlk d12_getsNow_17
def b12_areNotesSo_2 (N : Nat) : Nat → Int32 → Int32 → Mz → Option (Int32 × Mz)
  | 0, _, _, _ => none
  | n + 1, x1, x2, μ => if (3 * (ga 7 μ (128 : Int32).toNatClampNeg)) ≤ x2 then some (1, μ) else lt (98 + x2) (fun v1 => ck (inb v1 129) (if (ga 7 μ v1.toNatClampNeg) = x1 then lt ((98 + x2) + 1) (fun v4 => ck (inb v4 129) (lt (13 + (ga 7 μ v4.toNatClampNeg)) (fun v6 => ck (inb v6 129) (lt ((98 + x2) + 2) (fun v8 => ck (inb v8 129) (if (ga 7 μ v6.toNatClampNeg) = (ga 7 μ v8.toNatClampNeg) then lt (x2 + 3) (fun v10 => b12_areNotesSo_2 N n x1 v10 μ) else some (0, μ))))))) else lt (x2 + 3) (fun v3 => b12_areNotesSo_2 N n x1 v3 μ)))
set_option maxHeartbeats 4000000 in
set_option maxRecDepth 100000 in
theorem t12_areNotesSo_2 {p : Program} {l : Launch} {e : Env} {s : State} {m : MethodId} {args : Array Value} {below : List Frame} {meth : Method} {c : Code} {D : va_G} {θ : Th} {A : Nat → Prop} (K : KM p s m args c c12_areNotesSo 3 y12_areNotesSo (some .boolean) D θ A) (hr : meth.sig.returnType = (some .boolean)) (hlk : meth.locks = false) (N : Nat) (ρ : Int32 × Mz) : ∀ (n : Nat) (x1 : Int32) (x2 : Int32) (μ : Mz), b12_areNotesSo_2 N n x1 x2 μ = some ρ → JM p l e s m args below meth c D θ A 1 3 (QMi below args s D θ A ρ) μ [(0, .ref θ.1), (1, .int x1), (2, .int x2)] [] 2 := by
  intro n
  induction n with
  | zero =>
    intro x1 x2 μ h
    exact absurd h (by simp [b12_areNotesSo_2])
  | succ n ih =>
    intro x1 x2 μ h
    rw [b12_areNotesSo_2] at h
    refine j_iload_n K 2 d12_areNotesSo_2 rfl rfl ?_
    refine j_iconst (v := 3) K d12_areNotesSo_3 (by decide) ?_
    refine j_aload_n K 0 d12_areNotesSo_4 rfl rfl ?_
    refine mg_said K d12_areNotesSo_5 ?_
    refine j_sipush (v := 128) K d12_areNotesSo_8 (by decide) ?_
    refine ml_said K (inb_e (by decide)) d12_areNotesSo_11 ?_
    refine j_imul K d12_areNotesSo_12 ?_
    refine j_icmp_ge (tgt := 70) K d12_areNotesSo_13 (by decide) (fun q => ?_) (fun q => ?_)
    · have h := if_t h q
      refine j_iconst (v := 1) K d12_areNotesSo_70 (by decide) ?_
      exact mret_z K h rfl hr hlk d12_areNotesSo_71
    · have h := if_f h q
      refine j_aload_n K 0 d12_areNotesSo_16 rfl rfl ?_
      refine mg_said K d12_areNotesSo_17 ?_
      refine j_bipush (v := 98) K d12_areNotesSo_20 (by decide) ?_
      refine j_iload_n K 2 d12_areNotesSo_22 rfl rfl ?_
      refine j_iadd K d12_areNotesSo_23 ?_
      obtain ⟨v1, e1, h⟩ := lt_e h
      refine j_eqi e1 ?_
      obtain ⟨q2, h⟩ := ck_e h
      refine ml_said K (inb_e q2) d12_areNotesSo_24 ?_
      refine j_iload_n K 1 d12_areNotesSo_25 rfl rfl ?_
      refine j_icmp_ne (tgt := 64) K d12_areNotesSo_26 (by decide) (fun q => ?_) (fun q => ?_)
      · have h := if_f h q
        obtain ⟨v3, e3, h⟩ := lt_e h
        refine j_iinc (k := 2) (v := v3) (lv' := [(2, .int v3), (0, .ref θ.1), (1, .int x1)]) K d12_areNotesSo_64 rfl (by rw [e3]; rfl) (by decide) rfl ?_
        refine j_goto (tgt := 2) K d12_areNotesSo_67 (by decide) ?_
        refine j_sub [1, 2, 0] rfl ?_
        exact ih x1 v3 μ h
      · have h := if_t h q
        refine j_aload_n K 0 d12_areNotesSo_29 rfl rfl ?_
        refine mg_said K d12_areNotesSo_30 ?_
        refine j_bipush (v := 13) K d12_areNotesSo_33 (by decide) ?_
        refine j_aload_n K 0 d12_areNotesSo_35 rfl rfl ?_
        refine mg_said K d12_areNotesSo_36 ?_
        refine j_bipush (v := 98) K d12_areNotesSo_39 (by decide) ?_
        refine j_iload_n K 2 d12_areNotesSo_41 rfl rfl ?_
        refine j_iadd K d12_areNotesSo_42 ?_
        refine j_iconst (v := 1) K d12_areNotesSo_43 (by decide) ?_
        refine j_iadd K d12_areNotesSo_44 ?_
        obtain ⟨v4, e4, h⟩ := lt_e h
        refine j_eqi e4 ?_
        obtain ⟨q5, h⟩ := ck_e h
        refine ml_said K (inb_e q5) d12_areNotesSo_45 ?_
        refine j_iadd K d12_areNotesSo_46 ?_
        obtain ⟨v6, e6, h⟩ := lt_e h
        refine j_eqi e6 ?_
        obtain ⟨q7, h⟩ := ck_e h
        refine ml_said K (inb_e q7) d12_areNotesSo_47 ?_
        refine j_aload_n K 0 d12_areNotesSo_48 rfl rfl ?_
        refine mg_said K d12_areNotesSo_49 ?_
        refine j_bipush (v := 98) K d12_areNotesSo_52 (by decide) ?_
        refine j_iload_n K 2 d12_areNotesSo_54 rfl rfl ?_
        refine j_iadd K d12_areNotesSo_55 ?_
        refine j_iconst (v := 2) K d12_areNotesSo_56 (by decide) ?_
        refine j_iadd K d12_areNotesSo_57 ?_
        obtain ⟨v8, e8, h⟩ := lt_e h
        refine j_eqi e8 ?_
        obtain ⟨q9, h⟩ := ck_e h
        refine ml_said K (inb_e q9) d12_areNotesSo_58 ?_
        refine j_icmp_eq (tgt := 64) K d12_areNotesSo_59 (by decide) (fun q => ?_) (fun q => ?_)
        · have h := if_t h q
          obtain ⟨v10, e10, h⟩ := lt_e h
          refine j_iinc (k := 2) (v := v10) (lv' := [(2, .int v10), (0, .ref θ.1), (1, .int x1)]) K d12_areNotesSo_64 rfl (by rw [e10]; rfl) (by decide) rfl ?_
          refine j_goto (tgt := 2) K d12_areNotesSo_67 (by decide) ?_
          refine j_sub [1, 2, 0] rfl ?_
          exact ih x1 v10 μ h
        · have h := if_f h q
          refine j_iconst (v := 0) K d12_areNotesSo_62 (by decide) ?_
          exact mret_z K h rfl hr hlk d12_areNotesSo_63
def p12_areNotesSo (N : Nat) (a1 : Int32) (μ : Mz) : Option (Int32 × Mz) := b12_areNotesSo_2 N N a1 0 μ
set_option maxHeartbeats 4000000 in
set_option maxRecDepth 100000 in
theorem c12_areNotesSo_ok (l : Launch) (D : va_G) (θ : Th) (N : Nat) (a1 : Int32) (μ : Mz) (ρ : Int32 × Mz) (h : p12_areNotesSo N a1 μ = some ρ) : CMi l D θ y12_areNotesSo c12_areNotesSo 3 (some .boolean) 1 [.int a1] μ ρ := by
  intro sz
  refine j_met l [.ref θ.1, .int a1] (by decide +kernel) (Nat.le_of_ble_eq_true rfl) ?_
  intro p e s m args below meth c K hr hlk hnm hs
  generalize va_A (wM θ μ) sz = A at K ⊢
  have K : KM p s m args c c12_areNotesSo 3 y12_areNotesSo (some .boolean) D θ A := K
  show JM p l e s m args below meth c D θ A 1 3 (QMi below args s D θ A ρ) μ [(0, .ref θ.1), (1, .int a1)] [] 0
  unfold p12_areNotesSo at h
  refine j_iconst (v := 0) K d12_areNotesSo_0 (by decide) ?_
  refine j_istore_n (lv' := [(2, .int 0), (0, .ref θ.1), (1, .int a1)]) K d12_areNotesSo_1 rfl (by decide) rfl ?_
  refine j_sub [1, 2, 0] rfl ?_
  exact t12_areNotesSo_2 K hr hlk N ρ N a1 0 μ h
def b12_alikeAt_88 (N : Nat) (k4 : Int32 → Int32 → Int32 → Mz → Option (Int32 × Mz)) (x1 : Int32) (x2 : Int32) (x3 : Int32) (x4 : Int32) (μ : Mz) : Option (Int32 × Mz) := if x4 ≤ x2 then lt (x3 + 1) (fun v1 => k4 x1 x2 v1 μ) else lt (x3 + 1) (fun v2 => k4 x1 x4 v2 μ)
set_option maxHeartbeats 4000000 in
set_option maxRecDepth 100000 in
theorem t12_alikeAt_88 {p : Program} {l : Launch} {e : Env} {s : State} {m : MethodId} {args : Array Value} {below : List Frame} {meth : Method} {c : Code} {D : va_G} {θ : Th} {A : Nat → Prop} (K : KM p s m args c c12_alikeAt 6 y12_alikeAt (some .int) D θ A) (hr : meth.sig.returnType = (some .int)) (hlk : meth.locks = false) (N : Nat) (ρ : Int32 × Mz) (k4 : Int32 → Int32 → Int32 → Mz → Option (Int32 × Mz)) (hk4 : ∀ (x1 : Int32) (x2 : Int32) (x3 : Int32) (μ : Mz), k4 x1 x2 x3 μ = some ρ → JM p l e s m args below meth c D θ A 1 6 (QMi below args s D θ A ρ) μ [(0, .ref θ.1), (1, .int x1), (2, .int x2), (3, .int x3)] [] 4) (x1 : Int32) (x2 : Int32) (x3 : Int32) (x4 : Int32) (μ : Mz) (h : b12_alikeAt_88 N k4 x1 x2 x3 x4 μ = some ρ) : JM p l e s m args below meth c D θ A 1 6 (QMi below args s D θ A ρ) μ [(0, .ref θ.1), (1, .int x1), (2, .int x2), (3, .int x3), (4, .int x4)] [] 88 := by
  unfold b12_alikeAt_88 at h
  refine j_iload K 4 d12_alikeAt_88 rfl ?_
  refine j_iload_n K 2 d12_alikeAt_90 rfl rfl ?_
  refine j_icmp_le (tgt := 99) K d12_alikeAt_91 (by decide) (fun q => ?_) (fun q => ?_)
  · have h := if_t h q
    refine j_iload_n K 2 d12_alikeAt_99 rfl rfl ?_
    refine j_istore_n (lv' := [(2, .int x2), (0, .ref θ.1), (1, .int x1), (3, .int x3), (4, .int x4)]) K d12_alikeAt_100 rfl (by decide) rfl ?_
    obtain ⟨v1, e1, h⟩ := lt_e h
    refine j_iinc (k := 3) (v := v1) (lv' := [(3, .int v1), (2, .int x2), (0, .ref θ.1), (1, .int x1), (4, .int x4)]) K d12_alikeAt_101 rfl (by rw [e1]; rfl) (by decide) rfl ?_
    refine j_goto (tgt := 4) K d12_alikeAt_104 (by decide) ?_
    refine j_sub [2, 3, 1, 0] rfl ?_
    exact hk4 x1 x2 v1 μ h
  · have h := if_f h q
    refine j_iload K 4 d12_alikeAt_94 rfl ?_
    refine j_goto (tgt := 100) K d12_alikeAt_96 (by decide) ?_
    refine j_istore_n (lv' := [(2, .int x4), (0, .ref θ.1), (1, .int x1), (3, .int x3), (4, .int x4)]) K d12_alikeAt_100 rfl (by decide) rfl ?_
    obtain ⟨v2, e2, h⟩ := lt_e h
    refine j_iinc (k := 3) (v := v2) (lv' := [(3, .int v2), (2, .int x4), (0, .ref θ.1), (1, .int x1), (4, .int x4)]) K d12_alikeAt_101 rfl (by rw [e2]; rfl) (by decide) rfl ?_
    refine j_goto (tgt := 4) K d12_alikeAt_104 (by decide) ?_
    refine j_sub [2, 3, 1, 0] rfl ?_
    exact hk4 x1 x4 v2 μ h
def b12_alikeAt_18 (N : Nat) (k4 : Int32 → Int32 → Int32 → Mz → Option (Int32 × Mz)) : Nat → Int32 → Int32 → Int32 → Int32 → Int32 → Mz → Option (Int32 × Mz)
  | 0, _, _, _, _, _, _ => none
  | n + 1, x1, x2, x3, x4, x5, μ => if (gi 1 μ) < x5 then b12_alikeAt_88 N k4 x1 x2 x3 x4 μ else ck (inb x3 7) (if (ga 15 μ x3.toNatClampNeg) = 0 then b12_alikeAt_88 N k4 x1 x2 x3 x4 μ else ck (inb x5 7) (if (ga 15 μ x5.toNatClampNeg) = 0 then lt (x4 + 0) (fun v5 => lt (x5 + 1) (fun v6 => b12_alikeAt_18 N k4 n x1 x2 x3 v5 v6 μ)) else lt ((10 * x3) + x1) (fun v7 => ck (inb v7 70) (lt ((10 * x5) + x1) (fun v9 => ck (inb v9 70) (if (ga 16 μ v7.toNatClampNeg) = (ga 16 μ v9.toNatClampNeg) then lt (x4 + 1) (fun v13 => lt (x5 + 1) (fun v14 => b12_alikeAt_18 N k4 n x1 x2 x3 v13 v14 μ)) else lt (x4 + 0) (fun v11 => lt (x5 + 1) (fun v12 => b12_alikeAt_18 N k4 n x1 x2 x3 v11 v12 μ))))))))
set_option maxHeartbeats 4000000 in
set_option maxRecDepth 100000 in
theorem t12_alikeAt_18 {p : Program} {l : Launch} {e : Env} {s : State} {m : MethodId} {args : Array Value} {below : List Frame} {meth : Method} {c : Code} {D : va_G} {θ : Th} {A : Nat → Prop} (K : KM p s m args c c12_alikeAt 6 y12_alikeAt (some .int) D θ A) (hr : meth.sig.returnType = (some .int)) (hlk : meth.locks = false) (N : Nat) (ρ : Int32 × Mz) (k4 : Int32 → Int32 → Int32 → Mz → Option (Int32 × Mz)) (hk4 : ∀ (x1 : Int32) (x2 : Int32) (x3 : Int32) (μ : Mz), k4 x1 x2 x3 μ = some ρ → JM p l e s m args below meth c D θ A 1 6 (QMi below args s D θ A ρ) μ [(0, .ref θ.1), (1, .int x1), (2, .int x2), (3, .int x3)] [] 4) : ∀ (n : Nat) (x1 : Int32) (x2 : Int32) (x3 : Int32) (x4 : Int32) (x5 : Int32) (μ : Mz), b12_alikeAt_18 N k4 n x1 x2 x3 x4 x5 μ = some ρ → JM p l e s m args below meth c D θ A 1 6 (QMi below args s D θ A ρ) μ [(0, .ref θ.1), (1, .int x1), (2, .int x2), (3, .int x3), (4, .int x4), (5, .int x5)] [] 18 := by
  intro n
  induction n with
  | zero =>
    intro x1 x2 x3 x4 x5 μ h
    exact absurd h (by simp [b12_alikeAt_18])
  | succ n ih =>
    intro x1 x2 x3 x4 x5 μ h
    rw [b12_alikeAt_18] at h
    refine j_iload K 5 d12_alikeAt_18 rfl ?_
    refine j_aload_n K 0 d12_alikeAt_20 rfl rfl ?_
    refine mg_rules K d12_alikeAt_21 ?_
    refine j_icmp_gt (tgt := 88) K d12_alikeAt_24 (by decide) (fun q => ?_) (fun q => ?_)
    · have h := if_t h q
      refine j_sub [0, 1, 2, 3, 4] rfl ?_
      exact t12_alikeAt_88 K hr hlk N ρ k4 hk4 x1 x2 x3 x4 μ h
    · have h := if_f h q
      refine j_aload_n K 0 d12_alikeAt_27 rfl rfl ?_
      refine mg_isFit K d12_alikeAt_28 ?_
      refine j_iload_n K 3 d12_alikeAt_31 rfl rfl ?_
      obtain ⟨q3, h⟩ := ck_e h
      refine ml_isFit K (inb_e q3) d12_alikeAt_32 ?_
      refine j_if_eq (tgt := 88) K d12_alikeAt_33 (by decide) (fun q => ?_) (fun q => ?_)
      · have h := if_t h q
        refine j_sub [0, 1, 2, 3, 4] rfl ?_
        exact t12_alikeAt_88 K hr hlk N ρ k4 hk4 x1 x2 x3 x4 μ h
      · have h := if_f h q
        refine j_iload K 4 d12_alikeAt_36 rfl ?_
        refine j_aload_n K 0 d12_alikeAt_38 rfl rfl ?_
        refine mg_isFit K d12_alikeAt_39 ?_
        refine j_iload K 5 d12_alikeAt_42 rfl ?_
        obtain ⟨q4, h⟩ := ck_e h
        refine ml_isFit K (inb_e q4) d12_alikeAt_44 ?_
        refine j_if_eq (tgt := 78) K d12_alikeAt_45 (by decide) (fun q => ?_) (fun q => ?_)
        · have h := if_t h q
          refine j_iconst (v := 0) K d12_alikeAt_78 (by decide) ?_
          refine j_iadd K d12_alikeAt_79 ?_
          obtain ⟨v5, e5, h⟩ := lt_e h
          refine j_eqi e5 ?_
          refine j_istore (lv' := [(4, .int v5), (0, .ref θ.1), (1, .int x1), (2, .int x2), (3, .int x3), (5, .int x5)]) K d12_alikeAt_80 (by decide) rfl ?_
          obtain ⟨v6, e6, h⟩ := lt_e h
          refine j_iinc (k := 5) (v := v6) (lv' := [(5, .int v6), (4, .int v5), (0, .ref θ.1), (1, .int x1), (2, .int x2), (3, .int x3)]) K d12_alikeAt_82 rfl (by rw [e6]; rfl) (by decide) rfl ?_
          refine j_goto (tgt := 18) K d12_alikeAt_85 (by decide) ?_
          refine j_sub [2, 3, 4, 5, 1, 0] rfl ?_
          exact ih x1 x2 x3 v5 v6 μ h
        · have h := if_f h q
          refine j_aload_n K 0 d12_alikeAt_48 rfl rfl ?_
          refine mg_rulePut K d12_alikeAt_49 ?_
          refine j_bipush (v := 10) K d12_alikeAt_52 (by decide) ?_
          refine j_iload_n K 3 d12_alikeAt_54 rfl rfl ?_
          refine j_imul K d12_alikeAt_55 ?_
          refine j_iload_n K 1 d12_alikeAt_56 rfl rfl ?_
          refine j_iadd K d12_alikeAt_57 ?_
          obtain ⟨v7, e7, h⟩ := lt_e h
          refine j_eqi e7 ?_
          obtain ⟨q8, h⟩ := ck_e h
          refine ml_rulePut K (inb_e q8) d12_alikeAt_58 ?_
          refine j_aload_n K 0 d12_alikeAt_59 rfl rfl ?_
          refine mg_rulePut K d12_alikeAt_60 ?_
          refine j_bipush (v := 10) K d12_alikeAt_63 (by decide) ?_
          refine j_iload K 5 d12_alikeAt_65 rfl ?_
          refine j_imul K d12_alikeAt_67 ?_
          refine j_iload_n K 1 d12_alikeAt_68 rfl rfl ?_
          refine j_iadd K d12_alikeAt_69 ?_
          obtain ⟨v9, e9, h⟩ := lt_e h
          refine j_eqi e9 ?_
          obtain ⟨q10, h⟩ := ck_e h
          refine ml_rulePut K (inb_e q10) d12_alikeAt_70 ?_
          refine j_icmp_ne (tgt := 78) K d12_alikeAt_71 (by decide) (fun q => ?_) (fun q => ?_)
          · have h := if_f h q
            refine j_iconst (v := 0) K d12_alikeAt_78 (by decide) ?_
            refine j_iadd K d12_alikeAt_79 ?_
            obtain ⟨v11, e11, h⟩ := lt_e h
            refine j_eqi e11 ?_
            refine j_istore (lv' := [(4, .int v11), (0, .ref θ.1), (1, .int x1), (2, .int x2), (3, .int x3), (5, .int x5)]) K d12_alikeAt_80 (by decide) rfl ?_
            obtain ⟨v12, e12, h⟩ := lt_e h
            refine j_iinc (k := 5) (v := v12) (lv' := [(5, .int v12), (4, .int v11), (0, .ref θ.1), (1, .int x1), (2, .int x2), (3, .int x3)]) K d12_alikeAt_82 rfl (by rw [e12]; rfl) (by decide) rfl ?_
            refine j_goto (tgt := 18) K d12_alikeAt_85 (by decide) ?_
            refine j_sub [2, 3, 4, 5, 1, 0] rfl ?_
            exact ih x1 x2 x3 v11 v12 μ h
          · have h := if_t h q
            refine j_iconst (v := 1) K d12_alikeAt_74 (by decide) ?_
            refine j_goto (tgt := 79) K d12_alikeAt_75 (by decide) ?_
            refine j_iadd K d12_alikeAt_79 ?_
            obtain ⟨v13, e13, h⟩ := lt_e h
            refine j_eqi e13 ?_
            refine j_istore (lv' := [(4, .int v13), (0, .ref θ.1), (1, .int x1), (2, .int x2), (3, .int x3), (5, .int x5)]) K d12_alikeAt_80 (by decide) rfl ?_
            obtain ⟨v14, e14, h⟩ := lt_e h
            refine j_iinc (k := 5) (v := v14) (lv' := [(5, .int v14), (4, .int v13), (0, .ref θ.1), (1, .int x1), (2, .int x2), (3, .int x3)]) K d12_alikeAt_82 rfl (by rw [e14]; rfl) (by decide) rfl ?_
            refine j_goto (tgt := 18) K d12_alikeAt_85 (by decide) ?_
            refine j_sub [2, 3, 4, 5, 1, 0] rfl ?_
            exact ih x1 x2 x3 v13 v14 μ h
def b12_alikeAt_4 (N : Nat) : Nat → Int32 → Int32 → Int32 → Mz → Option (Int32 × Mz)
  | 0, _, _, _, _ => none
  | n + 1, x1, x2, x3, μ => if (gi 1 μ) < x3 then some (x2, μ) else b12_alikeAt_18 N (b12_alikeAt_4 N n) N x1 x2 x3 0 0 μ
set_option maxHeartbeats 4000000 in
set_option maxRecDepth 100000 in
theorem t12_alikeAt_4 {p : Program} {l : Launch} {e : Env} {s : State} {m : MethodId} {args : Array Value} {below : List Frame} {meth : Method} {c : Code} {D : va_G} {θ : Th} {A : Nat → Prop} (K : KM p s m args c c12_alikeAt 6 y12_alikeAt (some .int) D θ A) (hr : meth.sig.returnType = (some .int)) (hlk : meth.locks = false) (N : Nat) (ρ : Int32 × Mz) : ∀ (n : Nat) (x1 : Int32) (x2 : Int32) (x3 : Int32) (μ : Mz), b12_alikeAt_4 N n x1 x2 x3 μ = some ρ → JM p l e s m args below meth c D θ A 1 6 (QMi below args s D θ A ρ) μ [(0, .ref θ.1), (1, .int x1), (2, .int x2), (3, .int x3)] [] 4 := by
  intro n
  induction n with
  | zero =>
    intro x1 x2 x3 μ h
    exact absurd h (by simp [b12_alikeAt_4])
  | succ n ih =>
    intro x1 x2 x3 μ h
    rw [b12_alikeAt_4] at h
    refine j_iload_n K 3 d12_alikeAt_4 rfl rfl ?_
    refine j_aload_n K 0 d12_alikeAt_5 rfl rfl ?_
    refine mg_rules K d12_alikeAt_6 ?_
    refine j_icmp_gt (tgt := 107) K d12_alikeAt_9 (by decide) (fun q => ?_) (fun q => ?_)
    · have h := if_t h q
      refine j_iload_n K 2 d12_alikeAt_107 rfl rfl ?_
      exact mret_i K h hr hlk d12_alikeAt_108
    · have h := if_f h q
      refine j_iconst (v := 0) K d12_alikeAt_12 (by decide) ?_
      refine j_istore (lv' := [(4, .int 0), (0, .ref θ.1), (1, .int x1), (2, .int x2), (3, .int x3)]) K d12_alikeAt_13 (by decide) rfl ?_
      refine j_iconst (v := 0) K d12_alikeAt_15 (by decide) ?_
      refine j_istore (lv' := [(5, .int 0), (4, .int 0), (0, .ref θ.1), (1, .int x1), (2, .int x2), (3, .int x3)]) K d12_alikeAt_16 (by decide) rfl ?_
      refine j_sub [2, 3, 4, 5, 1, 0] rfl ?_
      exact t12_alikeAt_18 K hr hlk N ρ (b12_alikeAt_4 N n) ih N x1 x2 x3 0 0 μ h
def p12_alikeAt (N : Nat) (a1 : Int32) (μ : Mz) : Option (Int32 × Mz) := b12_alikeAt_4 N N a1 0 0 μ
set_option maxHeartbeats 4000000 in
set_option maxRecDepth 100000 in
theorem c12_alikeAt_ok (l : Launch) (D : va_G) (θ : Th) (N : Nat) (a1 : Int32) (μ : Mz) (ρ : Int32 × Mz) (h : p12_alikeAt N a1 μ = some ρ) : CMi l D θ y12_alikeAt c12_alikeAt 6 (some .int) 1 [.int a1] μ ρ := by
  intro sz
  refine j_met l [.ref θ.1, .int a1] (by decide +kernel) (Nat.le_of_ble_eq_true rfl) ?_
  intro p e s m args below meth c K hr hlk hnm hs
  generalize va_A (wM θ μ) sz = A at K ⊢
  have K : KM p s m args c c12_alikeAt 6 y12_alikeAt (some .int) D θ A := K
  show JM p l e s m args below meth c D θ A 1 6 (QMi below args s D θ A ρ) μ [(0, .ref θ.1), (1, .int a1)] [] 0
  unfold p12_alikeAt at h
  refine j_iconst (v := 0) K d12_alikeAt_0 (by decide) ?_
  refine j_istore_n (lv' := [(2, .int 0), (0, .ref θ.1), (1, .int a1)]) K d12_alikeAt_1 rfl (by decide) rfl ?_
  refine j_iconst (v := 0) K d12_alikeAt_2 (by decide) ?_
  refine j_istore_n (lv' := [(3, .int 0), (2, .int 0), (0, .ref θ.1), (1, .int a1)]) K d12_alikeAt_3 rfl (by decide) rfl ?_
  refine j_sub [2, 3, 1, 0] rfl ?_
  exact t12_alikeAt_4 K hr hlk N ρ N a1 0 0 μ h
def p12_seed (N : Nat) (a1 : Int32) (μ : Mz) : Option (Int32 × Mz) := if 0 ≤ a1 then lt (gi 12 μ) (fun v1 => lt (si 12 a1 μ) (fun μ2 => some (v1, μ2))) else some ((-1), μ)
set_option maxHeartbeats 4000000 in
set_option maxRecDepth 100000 in
theorem c12_seed_ok (l : Launch) (D : va_G) (θ : Th) (N : Nat) (a1 : Int32) (μ : Mz) (ρ : Int32 × Mz) (h : p12_seed N a1 μ = some ρ) : CMi l D θ y12_seed c12_seed 3 (some .int) 1 [.int a1] μ ρ := by
  intro sz
  refine j_met l [.ref θ.1, .int a1] (by decide +kernel) (Nat.le_of_ble_eq_true rfl) ?_
  intro p e s m args below meth c K hr hlk hnm hs
  generalize va_A (wM θ μ) sz = A at K ⊢
  have K : KM p s m args c c12_seed 3 y12_seed (some .int) D θ A := K
  show JM p l e s m args below meth c D θ A 1 3 (QMi below args s D θ A ρ) μ [(0, .ref θ.1), (1, .int a1)] [] 0
  unfold p12_seed at h
  refine j_iload_n K 1 d12_seed_0 rfl rfl ?_
  refine j_if_ge (tgt := 6) K d12_seed_1 (by decide) (fun q => ?_) (fun q => ?_)
  · have h := if_t h q
    refine j_aload_n K 0 d12_seed_6 rfl rfl ?_
    refine mg_x K d12_seed_7 ?_
    obtain ⟨v1, e1, h⟩ := lt_e h
    refine j_eqi e1 ?_
    refine j_istore_n (lv' := [(2, .int v1), (0, .ref θ.1), (1, .int a1)]) K d12_seed_10 rfl (by decide) rfl ?_
    refine j_aload_n K 1 d12_seed_11 rfl rfl ?_
    refine j_iload_n K 2 d12_seed_12 rfl rfl ?_
    obtain ⟨μ2, e2, h⟩ := lt_e h
    refine mp_x K d12_seed_13 e2 ?_
    refine j_iload_n K 0 d12_seed_16 rfl rfl ?_
    exact mret_i K h hr hlk d12_seed_17
  · have h := if_f h q
    refine j_iconst (v := (-1)) K d12_seed_4 (by decide) ?_
    exact mret_i K h hr hlk d12_seed_5
def p12_draw (N : Nat) (a1 : Int32) (μ : Mz) : Option (Int32 × Mz) := lt (sj 0 ((((gj 0 μ) * 1103515245) + 12345) - (((gj 0 μ) * 1103515245) + 12345) / 2147483648 * 2147483648) μ) (fun μ1 => lt (a1.toInt64) (fun v2 => ck (nzL v2) (some ((((gj 0 μ1) / 65536) - ((gj 0 μ1) / 65536) / v2 * v2).toInt32, μ1))))
set_option maxHeartbeats 4000000 in
set_option maxRecDepth 100000 in
theorem c12_draw_ok (l : Launch) (D : va_G) (θ : Th) (N : Nat) (a1 : Int32) (μ : Mz) (ρ : Int32 × Mz) (h : p12_draw N a1 μ = some ρ) : CMi l D θ y12_draw c12_draw 2 (some .int) 1 [.int a1] μ ρ := by
  intro sz
  refine j_met l [.ref θ.1, .int a1] (by decide +kernel) (Nat.le_of_ble_eq_true rfl) ?_
  intro p e s m args below meth c K hr hlk hnm hs
  generalize va_A (wM θ μ) sz = A at K ⊢
  have K : KM p s m args c c12_draw 2 y12_draw (some .int) D θ A := K
  show JM p l e s m args below meth c D θ A 1 2 (QMi below args s D θ A ρ) μ [(0, .ref θ.1), (1, .int a1)] [] 0
  unfold p12_draw at h
  refine j_aload_n K 0 d12_draw_0 rfl rfl ?_
  refine j_aload_n K 0 d12_draw_1 rfl rfl ?_
  refine mg_drawX K d12_draw_2 ?_
  refine j_ldc2 (v := 1103515245) K (List.mem_cons_of_mem _ mk12_455) d12_draw_5 ?_
  refine j_lmul K d12_draw_8 ?_
  refine j_ldc2 (v := 12345) K (List.mem_cons_of_mem _ mk12_457) d12_draw_9 ?_
  refine j_ladd K d12_draw_12 ?_
  refine j_ldc2 (v := 2147483648) K (List.mem_cons_of_mem _ mk12_459) d12_draw_13 ?_
  refine j_lrem K d12_draw_16 (by decide) ?_
  obtain ⟨μ1, e1, h⟩ := lt_e h
  refine mp_drawX K d12_draw_17 e1 ?_
  refine j_aload_n K 0 d12_draw_20 rfl rfl ?_
  refine mg_drawX K d12_draw_21 ?_
  refine j_ldc2 (v := 65536) K (List.mem_cons_of_mem _ mk12_461) d12_draw_24 ?_
  refine j_ldiv K d12_draw_27 (by decide) ?_
  refine j_iload_n K 1 d12_draw_28 rfl rfl ?_
  refine j_i2l K d12_draw_29 ?_
  obtain ⟨v2, e2, h⟩ := lt_e h
  refine j_eql e2 ?_
  obtain ⟨q3, h⟩ := ck_e h
  refine j_lrem K d12_draw_30 (nzL_e q3) ?_
  refine j_l2i K d12_draw_31 ?_
  exact mret_i K h hr hlk d12_draw_32
def p12_feed (N : Nat) (a1 : Int32) (a2 : Int32) (a3 : Int32) (a4 : Int32) (a5 : Int32) (μ : Mz) : Option (Int32 × Mz) := if ((gi 0 μ) + 20) ≤ 400 then bo (p12_four N a1 μ) (fun μ1 => bo (p12_four N a2 μ1) (fun μ2 => bo (p12_four N a3 μ2) (fun μ3 => bo (p12_four N a4 μ3) (fun μ4 => bo (p12_four N a5 μ4) (fun μ5 => some (gi 0 μ5, μ5)))))) else some ((-1), μ)
set_option maxHeartbeats 4000000 in
set_option maxRecDepth 100000 in
theorem c12_feed_ok (l : Launch) (D : va_G) (θ : Th) (N : Nat) (a1 : Int32) (a2 : Int32) (a3 : Int32) (a4 : Int32) (a5 : Int32) (μ : Mz) (ρ : Int32 × Mz) (h : p12_feed N a1 a2 a3 a4 a5 μ = some ρ) : CMi l D θ y12_feed c12_feed 6 (some .int) 2 [.int a1, .int a2, .int a3, .int a4, .int a5] μ ρ := by
  intro sz
  refine j_met l [.ref θ.1, .int a1, .int a2, .int a3, .int a4, .int a5] (by decide +kernel) (Nat.le_of_ble_eq_true rfl) ?_
  intro p e s m args below meth c K hr hlk hnm hs
  generalize va_A (wM θ μ) sz = A at K ⊢
  have K : KM p s m args c c12_feed 6 y12_feed (some .int) D θ A := K
  show JM p l e s m args below meth c D θ A 2 6 (QMi below args s D θ A ρ) μ [(0, .ref θ.1), (1, .int a1), (2, .int a2), (3, .int a3), (4, .int a4), (5, .int a5)] [] 0
  unfold p12_feed at h
  refine j_aload_n K 0 d12_feed_0 rfl rfl ?_
  refine mg_taped K d12_feed_1 ?_
  refine j_bipush (v := 20) K d12_feed_4 (by decide) ?_
  refine j_iadd K d12_feed_6 ?_
  refine j_sipush (v := 400) K d12_feed_7 (by decide) ?_
  refine j_icmp_le (tgt := 15) K d12_feed_10 (by decide) (fun q => ?_) (fun q => ?_)
  · have h := if_t h q
    refine j_aload_n K 0 d12_feed_15 rfl rfl ?_
    refine j_iload_n K 1 d12_feed_16 rfl rfl ?_
    obtain ⟨μ1, e1, h⟩ := bo_e h
    refine mcall_v K (c12_four_ok l D θ N a1 μ _ e1) mG_four mh_four (by decide) (by decide) rfl (st := []) (Nat.le_of_ble_eq_true rfl) rfl d12_feed_17 ?_
    refine j_aload_n K 0 d12_feed_20 rfl rfl ?_
    refine j_iload_n K 2 d12_feed_21 rfl rfl ?_
    obtain ⟨μ2, e2, h⟩ := bo_e h
    refine mcall_v K (c12_four_ok l D θ N a2 μ1 _ e2) mG_four mh_four (by decide) (by decide) rfl (st := []) (Nat.le_of_ble_eq_true rfl) rfl d12_feed_22 ?_
    refine j_aload_n K 0 d12_feed_25 rfl rfl ?_
    refine j_iload_n K 3 d12_feed_26 rfl rfl ?_
    obtain ⟨μ3, e3, h⟩ := bo_e h
    refine mcall_v K (c12_four_ok l D θ N a3 μ2 _ e3) mG_four mh_four (by decide) (by decide) rfl (st := []) (Nat.le_of_ble_eq_true rfl) rfl d12_feed_27 ?_
    refine j_aload_n K 0 d12_feed_30 rfl rfl ?_
    refine j_iload K 4 d12_feed_31 rfl ?_
    obtain ⟨μ4, e4, h⟩ := bo_e h
    refine mcall_v K (c12_four_ok l D θ N a4 μ3 _ e4) mG_four mh_four (by decide) (by decide) rfl (st := []) (Nat.le_of_ble_eq_true rfl) rfl d12_feed_33 ?_
    refine j_aload_n K 0 d12_feed_36 rfl rfl ?_
    refine j_iload K 5 d12_feed_37 rfl ?_
    obtain ⟨μ5, e5, h⟩ := bo_e h
    refine mcall_v K (c12_four_ok l D θ N a5 μ4 _ e5) mG_four mh_four (by decide) (by decide) rfl (st := []) (Nat.le_of_ble_eq_true rfl) rfl d12_feed_39 ?_
    refine j_aload_n K 0 d12_feed_42 rfl rfl ?_
    refine mg_taped K d12_feed_43 ?_
    exact mret_i K h hr hlk d12_feed_46
  · have h := if_f h q
    refine j_iconst (v := (-1)) K d12_feed_13 (by decide) ?_
    exact mret_i K h hr hlk d12_feed_14
def b12_isWord_10 (N : Nat) : Nat → Int64 → Int64 → Int32 → Mz → Option (Int32 × Mz)
  | 0, _, _, _, _ => none
  | n + 1, x1, x3, x5, μ => bd (p12_isLetter N ((gi 2 μ) + x5) μ) (fun r2 μ2 => if r2 = 0 then if x5 ≤ 0 then some (0, μ2) else if 8 ≤ x5 then some (0, μ2) else if (lg_cmp x3 x1) = 0 then some (1, μ2) else some (0, μ2) else if 8 ≤ x5 then lt (x5 + 1) (fun v3 => b12_isWord_10 N n x1 x3 v3 μ2) else lt ((gi 2 μ2) + x5) (fun v4 => ck (inb v4 400) (lt ((x3 <<< ((8 : Int32).toInt64 &&& 63)) ||| ((ga 0 μ2 v4.toNatClampNeg).toInt64)) (fun v6 => lt (x5 + 1) (fun v7 => b12_isWord_10 N n x1 v6 v7 μ2)))))
set_option maxHeartbeats 4000000 in
set_option maxRecDepth 100000 in
theorem t12_isWord_10 {p : Program} {l : Launch} {e : Env} {s : State} {m : MethodId} {args : Array Value} {below : List Frame} {meth : Method} {c : Code} {D : va_G} {θ : Th} {A : Nat → Prop} (K : KM p s m args c c12_isWord 6 y12_isWord (some .boolean) D θ A) (hr : meth.sig.returnType = (some .boolean)) (hlk : meth.locks = false) (N : Nat) (ρ : Int32 × Mz) : ∀ (n : Nat) (x1 : Int64) (x3 : Int64) (x5 : Int32) (μ : Mz), b12_isWord_10 N n x1 x3 x5 μ = some ρ → JM p l e s m args below meth c D θ A 2 6 (QMi below args s D θ A ρ) μ [(0, .ref θ.1), (1, .long x1), (3, .long x3), (5, .int x5)] [] 10 := by
  intro n
  induction n with
  | zero =>
    intro x1 x3 x5 μ h
    exact absurd h (by simp [b12_isWord_10])
  | succ n ih =>
    intro x1 x3 x5 μ h
    rw [b12_isWord_10] at h
    refine j_aload_n K 0 d12_isWord_10 rfl rfl ?_
    refine j_aload_n K 0 d12_isWord_11 rfl rfl ?_
    refine mg_next K d12_isWord_12 ?_
    refine j_iload K 3 d12_isWord_15 rfl ?_
    refine j_iadd K d12_isWord_17 ?_
    obtain ⟨r2, μ2, e2, h⟩ := bd_e h
    refine mcall_i K (c12_isLetter_ok l D θ N ((gi 2 μ) + x5) μ _ e2) mG_isLetter mh_isLetter (by decide) (by decide) rfl (st := []) (Nat.le_of_ble_eq_true rfl) rfl d12_isWord_18 ?_
    refine j_if_eq (tgt := 56) K d12_isWord_21 (by decide) (fun q => ?_) (fun q => ?_)
    · have h := if_t h q
      refine j_iload K 3 d12_isWord_56 rfl ?_
      refine j_if_le (tgt := 78) K d12_isWord_58 (by decide) (fun q => ?_) (fun q => ?_)
      · have h := if_t h q
        refine j_iconst (v := 0) K d12_isWord_78 (by decide) ?_
        exact mret_z K h rfl hr hlk d12_isWord_79
      · have h := if_f h q
        refine j_iload K 3 d12_isWord_61 rfl ?_
        refine j_bipush (v := 8) K d12_isWord_63 (by decide) ?_
        refine j_icmp_ge (tgt := 78) K d12_isWord_65 (by decide) (fun q => ?_) (fun q => ?_)
        · have h := if_t h q
          refine j_iconst (v := 0) K d12_isWord_78 (by decide) ?_
          exact mret_z K h rfl hr hlk d12_isWord_79
        · have h := if_f h q
          refine j_lload_n K 2 d12_isWord_68 rfl rfl ?_
          refine j_lload_n K 1 d12_isWord_69 rfl rfl ?_
          refine j_lcmp K d12_isWord_70 ?_
          refine j_if_ne (tgt := 78) K d12_isWord_71 (by decide) (fun q => ?_) (fun q => ?_)
          · have h := if_f h q
            refine j_iconst (v := 0) K d12_isWord_78 (by decide) ?_
            exact mret_z K h rfl hr hlk d12_isWord_79
          · have h := if_t h q
            refine j_iconst (v := 1) K d12_isWord_74 (by decide) ?_
            refine j_goto (tgt := 79) K d12_isWord_75 (by decide) ?_
            exact mret_z K h rfl hr hlk d12_isWord_79
    · have h := if_f h q
      refine j_iload K 3 d12_isWord_24 rfl ?_
      refine j_bipush (v := 8) K d12_isWord_26 (by decide) ?_
      refine j_icmp_ge (tgt := 50) K d12_isWord_28 (by decide) (fun q => ?_) (fun q => ?_)
      · have h := if_t h q
        obtain ⟨v3, e3, h⟩ := lt_e h
        refine j_iinc (k := 3) (v := v3) (lv' := [(5, .int v3), (0, .ref θ.1), (1, .long x1), (3, .long x3)]) K d12_isWord_50 rfl (by rw [e3]; rfl) (by decide) rfl ?_
        refine j_goto (tgt := 10) K d12_isWord_53 (by decide) ?_
        refine j_sub [1, 2, 3, 0] rfl ?_
        exact ih x1 x3 v3 μ2 h
      · have h := if_f h q
        refine j_lload_n K 2 d12_isWord_31 rfl rfl ?_
        refine j_bipush (v := 8) K d12_isWord_32 (by decide) ?_
        refine j_lshl K d12_isWord_34 ?_
        refine j_aload_n K 0 d12_isWord_35 rfl rfl ?_
        refine mg_tape K d12_isWord_36 ?_
        refine j_aload_n K 0 d12_isWord_39 rfl rfl ?_
        refine mg_next K d12_isWord_40 ?_
        refine j_iload K 3 d12_isWord_43 rfl ?_
        refine j_iadd K d12_isWord_45 ?_
        obtain ⟨v4, e4, h⟩ := lt_e h
        refine j_eqi e4 ?_
        obtain ⟨q5, h⟩ := ck_e h
        refine ml_tape K (inb_e q5) d12_isWord_46 ?_
        refine j_i2l K d12_isWord_47 ?_
        refine j_lor K d12_isWord_48 ?_
        obtain ⟨v6, e6, h⟩ := lt_e h
        refine j_eql e6 ?_
        refine j_lstore_n (lv' := [(3, .long v6), (0, .ref θ.1), (1, .long x1), (5, .int x5)]) K d12_isWord_49 rfl (by decide) rfl ?_
        obtain ⟨v7, e7, h⟩ := lt_e h
        refine j_iinc (k := 3) (v := v7) (lv' := [(5, .int v7), (3, .long v6), (0, .ref θ.1), (1, .long x1)]) K d12_isWord_50 rfl (by rw [e7]; rfl) (by decide) rfl ?_
        refine j_goto (tgt := 10) K d12_isWord_53 (by decide) ?_
        refine j_sub [2, 3, 1, 0] rfl ?_
        exact ih x1 v6 v7 μ2 h
def p12_isWord (N : Nat) (a1 : Int64) (μ : Mz) : Option (Int32 × Mz) := bd (p12_see N  μ) (fun r1 μ1 => b12_isWord_10 N N a1 0 0 μ1)
set_option maxHeartbeats 4000000 in
set_option maxRecDepth 100000 in
theorem c12_isWord_ok (l : Launch) (D : va_G) (θ : Th) (N : Nat) (a1 : Int64) (μ : Mz) (ρ : Int32 × Mz) (h : p12_isWord N a1 μ = some ρ) : CMi l D θ y12_isWord c12_isWord 6 (some .boolean) 2 [.long a1] μ ρ := by
  intro sz
  refine j_met l [.ref θ.1, .long a1] (by decide +kernel) (Nat.le_of_ble_eq_true rfl) ?_
  intro p e s m args below meth c K hr hlk hnm hs
  generalize va_A (wM θ μ) sz = A at K ⊢
  have K : KM p s m args c c12_isWord 6 y12_isWord (some .boolean) D θ A := K
  show JM p l e s m args below meth c D θ A 2 6 (QMi below args s D θ A ρ) μ [(0, .ref θ.1), (1, .long a1)] [] 0
  unfold p12_isWord at h
  refine j_aload_n K 0 d12_isWord_0 rfl rfl ?_
  obtain ⟨r1, μ1, e1, h⟩ := bd_e h
  refine mcall_i K (c12_see_ok l D θ N  μ _ e1) mG_see mh_see (by decide) (by decide) rfl (st := []) (Nat.le_of_ble_eq_true rfl) rfl d12_isWord_1 ?_
  refine j_pop K d12_isWord_4 rfl ?_
  refine j_lconst (v := 0) K d12_isWord_5 (by decide) ?_
  refine j_lstore_n (lv' := [(3, .long 0), (0, .ref θ.1), (1, .long a1)]) K d12_isWord_6 rfl (by decide) rfl ?_
  refine j_iconst (v := 0) K d12_isWord_7 (by decide) ?_
  refine j_istore (lv' := [(5, .int 0), (3, .long 0), (0, .ref θ.1), (1, .long a1)]) K d12_isWord_8 (by decide) rfl ?_
  refine j_sub [2, 3, 1, 0] rfl ?_
  exact t12_isWord_10 K hr hlk N ρ N a1 0 0 μ1 h
def b12_passWord_0 (N : Nat) : Nat → Mz → Option (Mz)
  | 0, _ => none
  | n + 1, μ => bd (p12_isLetter N (gi 2 μ) μ) (fun r1 μ1 => if r1 = 0 then some μ1 else lt (si 2 ((gi 2 μ1) + 1) μ1) (fun μ2 => b12_passWord_0 N n  μ2))
set_option maxHeartbeats 4000000 in
set_option maxRecDepth 100000 in
theorem t12_passWord_0 {p : Program} {l : Launch} {e : Env} {s : State} {m : MethodId} {args : Array Value} {below : List Frame} {meth : Method} {c : Code} {D : va_G} {θ : Th} {A : Nat → Prop} (K : KM p s m args c c12_passWord 1 y12_passWord none D θ A) (hr : meth.sig.returnType = none) (hlk : meth.locks = false) (N : Nat) (ρ : Mz) : ∀ (n : Nat)  (μ : Mz), b12_passWord_0 N n  μ = some ρ → JM p l e s m args below meth c D θ A 2 1 (QMv below args s D θ A ρ) μ [(0, .ref θ.1)] [] 0 := by
  intro n
  induction n with
  | zero =>
    intro μ h
    exact absurd h (by simp [b12_passWord_0])
  | succ n ih =>
    intro μ h
    rw [b12_passWord_0] at h
    refine j_aload_n K 0 d12_passWord_0 rfl rfl ?_
    refine j_aload_n K 0 d12_passWord_1 rfl rfl ?_
    refine mg_next K d12_passWord_2 ?_
    obtain ⟨r1, μ1, e1, h⟩ := bd_e h
    refine mcall_i K (c12_isLetter_ok l D θ N (gi 2 μ) μ _ e1) mG_isLetter mh_isLetter (by decide) (by decide) rfl (st := []) (Nat.le_of_ble_eq_true rfl) rfl d12_passWord_5 ?_
    refine j_if_eq (tgt := 24) K d12_passWord_8 (by decide) (fun q => ?_) (fun q => ?_)
    · have h := if_t h q
      exact mret_v K h hr hlk d12_passWord_24
    · have h := if_f h q
      refine j_aload_n K 0 d12_passWord_11 rfl rfl ?_
      refine j_dup K d12_passWord_12 rfl ?_
      refine mg_next K d12_passWord_13 ?_
      refine j_iconst (v := 1) K d12_passWord_16 (by decide) ?_
      refine j_iadd K d12_passWord_17 ?_
      obtain ⟨μ2, e2, h⟩ := lt_e h
      refine mp_next K d12_passWord_18 e2 ?_
      refine j_goto (tgt := 0) K d12_passWord_21 (by decide) ?_
      exact ih  μ2 h
def p12_passWord (N : Nat)  (μ : Mz) : Option (Mz) := b12_passWord_0 N N μ
set_option maxHeartbeats 4000000 in
set_option maxRecDepth 100000 in
theorem c12_passWord_ok (l : Launch) (D : va_G) (θ : Th) (N : Nat)  (μ : Mz) (ρ : Mz) (h : p12_passWord N  μ = some ρ) : CMv l D θ y12_passWord c12_passWord 1 none 2 [] μ ρ := by
  intro sz
  refine j_met l [.ref θ.1] (by decide +kernel) (Nat.le_of_ble_eq_true rfl) ?_
  intro p e s m args below meth c K hr hlk hnm hs
  generalize va_A (wM θ μ) sz = A at K ⊢
  have K : KM p s m args c c12_passWord 1 y12_passWord none D θ A := K
  show JM p l e s m args below meth c D θ A 2 1 (QMv below args s D θ A ρ) μ [(0, .ref θ.1)] [] 0
  unfold p12_passWord at h
  exact t12_passWord_0 K hr hlk N ρ N  μ h
def b12_numberHere_117 (N : Nat) (x3 : Int32) (μ : Mz) : Option (Int32 × Mz) := bd (p12_fails N 1 x3 μ) (fun r6 μ6 => if r6 = 0 then some (0, μ6) else some (1, μ6))
set_option maxHeartbeats 4000000 in
set_option maxRecDepth 100000 in
theorem t12_numberHere_117 {p : Program} {l : Launch} {e : Env} {s : State} {m : MethodId} {args : Array Value} {below : List Frame} {meth : Method} {c : Code} {D : va_G} {θ : Th} {A : Nat → Prop} (K : KM p s m args c c12_numberHere 5 y12_numberHere (some .boolean) D θ A) (hr : meth.sig.returnType = (some .boolean)) (hlk : meth.locks = false) (N : Nat) (ρ : Int32 × Mz) (x3 : Int32) (μ : Mz) (h : b12_numberHere_117 N x3 μ = some ρ) : JM p l e s m args below meth c D θ A 2 5 (QMi below args s D θ A ρ) μ [(0, .ref θ.1), (3, .int x3)] [] 117 := by
  unfold b12_numberHere_117 at h
  refine j_aload_n K 0 d12_numberHere_117 rfl rfl ?_
  refine j_iconst (v := 1) K d12_numberHere_118 (by decide) ?_
  refine j_iload_n K 1 d12_numberHere_119 rfl rfl ?_
  obtain ⟨r6, μ6, e6, h⟩ := bd_e h
  refine mcall_i K (c12_fails_ok l D θ N 1 x3 μ _ e6) mG_fails mh_fails (by decide) (by decide) rfl (st := []) (Nat.le_of_ble_eq_true rfl) rfl d12_numberHere_120 ?_
  refine j_if_eq (tgt := 130) K d12_numberHere_123 (by decide) (fun q => ?_) (fun q => ?_)
  · have h := if_t h q
    refine j_iconst (v := 0) K d12_numberHere_130 (by decide) ?_
    exact mret_z K h rfl hr hlk d12_numberHere_131
  · have h := if_f h q
    refine j_iconst (v := 1) K d12_numberHere_126 (by decide) ?_
    refine j_goto (tgt := 131) K d12_numberHere_127 (by decide) ?_
    exact mret_z K h rfl hr hlk d12_numberHere_131
def b12_numberHere_34 (N : Nat) : Nat → Int32 → Int32 → Int32 → Int32 → Mz → Option (Int32 × Mz)
  | 0, _, _, _, _, _ => none
  | n + 1, x1, x2, x3, x4, μ => bd (p12_isDigit N (gi 2 μ) μ) (fun r4 μ4 => if r4 = 0 then lt (si 4 x4 μ4) (fun μ5 => if 5 < ((gi 2 μ5) - x3) then b12_numberHere_117 N x3 μ5 else bo (p12_in N (x4.toInt64) (x1.toInt64) (x2.toInt64)) (fun r7 => if r7 = 0 then b12_numberHere_117 N x3 μ5 else some (1, μ5))) else if 5 ≤ ((gi 2 μ4) - x3) then lt (si 2 ((gi 2 μ4) + 1) μ4) (fun μ8 => b12_numberHere_34 N n x1 x2 x3 x4 μ8) else lt (gi 2 μ4) (fun v9 => ck (inb v9 400) (lt (((10 * x4) + (ga 0 μ4 v9.toNatClampNeg)) - 48) (fun v11 => lt (si 2 ((gi 2 μ4) + 1) μ4) (fun μ12 => b12_numberHere_34 N n x1 x2 x3 v11 μ12)))))
set_option maxHeartbeats 4000000 in
set_option maxRecDepth 100000 in
theorem t12_numberHere_34 {p : Program} {l : Launch} {e : Env} {s : State} {m : MethodId} {args : Array Value} {below : List Frame} {meth : Method} {c : Code} {D : va_G} {θ : Th} {A : Nat → Prop} (K : KM p s m args c c12_numberHere 5 y12_numberHere (some .boolean) D θ A) (hr : meth.sig.returnType = (some .boolean)) (hlk : meth.locks = false) (N : Nat) (ρ : Int32 × Mz) : ∀ (n : Nat) (x1 : Int32) (x2 : Int32) (x3 : Int32) (x4 : Int32) (μ : Mz), b12_numberHere_34 N n x1 x2 x3 x4 μ = some ρ → JM p l e s m args below meth c D θ A 2 5 (QMi below args s D θ A ρ) μ [(0, .ref θ.1), (1, .int x1), (2, .int x2), (3, .int x3), (4, .int x4)] [] 34 := by
  intro n
  induction n with
  | zero =>
    intro x1 x2 x3 x4 μ h
    exact absurd h (by simp [b12_numberHere_34])
  | succ n ih =>
    intro x1 x2 x3 x4 μ h
    rw [b12_numberHere_34] at h
    refine j_aload_n K 0 d12_numberHere_34 rfl rfl ?_
    refine j_aload_n K 0 d12_numberHere_35 rfl rfl ?_
    refine mg_next K d12_numberHere_36 ?_
    obtain ⟨r4, μ4, e4, h⟩ := bd_e h
    refine mcall_i K (c12_isDigit_ok l D θ N (gi 2 μ) μ _ e4) mG_isDigit mh_isDigit (by decide) (by decide) rfl (st := []) (Nat.le_of_ble_eq_true rfl) rfl d12_numberHere_39 ?_
    refine j_if_eq (tgt := 88) K d12_numberHere_42 (by decide) (fun q => ?_) (fun q => ?_)
    · have h := if_t h q
      refine j_aload_n K 0 d12_numberHere_88 rfl rfl ?_
      refine j_iload K 4 d12_numberHere_89 rfl ?_
      obtain ⟨μ5, e5, h⟩ := lt_e h
      refine mp_number K d12_numberHere_91 e5 ?_
      refine j_aload_n K 0 d12_numberHere_94 rfl rfl ?_
      refine mg_next K d12_numberHere_95 ?_
      refine j_iload_n K 3 d12_numberHere_98 rfl rfl ?_
      refine j_isub K d12_numberHere_99 ?_
      refine j_iconst (v := 5) K d12_numberHere_100 (by decide) ?_
      refine j_icmp_gt (tgt := 117) K d12_numberHere_101 (by decide) (fun q => ?_) (fun q => ?_)
      · have h := if_t h q
        refine j_sub [0, 3] rfl ?_
        exact t12_numberHere_117 K hr hlk N ρ x3 μ5 h
      · have h := if_f h q
        refine j_iload K 4 d12_numberHere_104 rfl ?_
        refine j_i2l K d12_numberHere_106 ?_
        refine j_iload_n K 1 d12_numberHere_107 rfl rfl ?_
        refine j_i2l K d12_numberHere_108 ?_
        refine j_iload_n K 2 d12_numberHere_109 rfl rfl ?_
        refine j_i2l K d12_numberHere_110 ?_
        obtain ⟨r7, e7, h⟩ := bo_e h
        refine mcalls_i K (c12_in_ok l D θ N (x4.toInt64) (x1.toInt64) (x2.toInt64) _ e7) mG_in mh_in (by decide) (by decide) rfl (st := []) (Nat.le_of_ble_eq_true rfl) rfl d12_numberHere_111 ?_
        refine j_if_ne (tgt := 126) K d12_numberHere_114 (by decide) (fun q => ?_) (fun q => ?_)
        · have h := if_f h q
          refine j_iconst (v := 1) K d12_numberHere_126 (by decide) ?_
          refine j_goto (tgt := 131) K d12_numberHere_127 (by decide) ?_
          exact mret_z K h rfl hr hlk d12_numberHere_131
        · have h := if_t h q
          refine j_sub [0, 3] rfl ?_
          exact t12_numberHere_117 K hr hlk N ρ x3 μ5 h
    · have h := if_f h q
      refine j_aload_n K 0 d12_numberHere_45 rfl rfl ?_
      refine mg_next K d12_numberHere_46 ?_
      refine j_iload_n K 3 d12_numberHere_49 rfl rfl ?_
      refine j_isub K d12_numberHere_50 ?_
      refine j_iconst (v := 5) K d12_numberHere_51 (by decide) ?_
      refine j_icmp_ge (tgt := 75) K d12_numberHere_52 (by decide) (fun q => ?_) (fun q => ?_)
      · have h := if_t h q
        refine j_aload_n K 0 d12_numberHere_75 rfl rfl ?_
        refine j_dup K d12_numberHere_76 rfl ?_
        refine mg_next K d12_numberHere_77 ?_
        refine j_iconst (v := 1) K d12_numberHere_80 (by decide) ?_
        refine j_iadd K d12_numberHere_81 ?_
        obtain ⟨μ8, e8, h⟩ := lt_e h
        refine mp_next K d12_numberHere_82 e8 ?_
        refine j_goto (tgt := 34) K d12_numberHere_85 (by decide) ?_
        exact ih x1 x2 x3 x4 μ8 h
      · have h := if_f h q
        refine j_bipush (v := 10) K d12_numberHere_55 (by decide) ?_
        refine j_iload K 4 d12_numberHere_57 rfl ?_
        refine j_imul K d12_numberHere_59 ?_
        refine j_aload_n K 0 d12_numberHere_60 rfl rfl ?_
        refine mg_tape K d12_numberHere_61 ?_
        refine j_aload_n K 0 d12_numberHere_64 rfl rfl ?_
        refine mg_next K d12_numberHere_65 ?_
        obtain ⟨v9, e9, h⟩ := lt_e h
        refine j_eqi e9 ?_
        obtain ⟨q10, h⟩ := ck_e h
        refine ml_tape K (inb_e q10) d12_numberHere_68 ?_
        refine j_iadd K d12_numberHere_69 ?_
        refine j_bipush (v := 48) K d12_numberHere_70 (by decide) ?_
        refine j_isub K d12_numberHere_72 ?_
        obtain ⟨v11, e11, h⟩ := lt_e h
        refine j_eqi e11 ?_
        refine j_istore (lv' := [(4, .int v11), (0, .ref θ.1), (1, .int x1), (2, .int x2), (3, .int x3)]) K d12_numberHere_73 (by decide) rfl ?_
        refine j_aload_n K 1 d12_numberHere_75 rfl rfl ?_
        refine j_dup K d12_numberHere_76 rfl ?_
        refine mg_next K d12_numberHere_77 ?_
        refine j_iconst (v := 1) K d12_numberHere_80 (by decide) ?_
        refine j_iadd K d12_numberHere_81 ?_
        obtain ⟨μ12, e12, h⟩ := lt_e h
        refine mp_next K d12_numberHere_82 e12 ?_
        refine j_goto (tgt := 34) K d12_numberHere_85 (by decide) ?_
        refine j_sub [1, 2, 3, 4, 0] rfl ?_
        exact ih x1 x2 x3 v11 μ12 h
def p12_numberHere (N : Nat) (a1 : Int32) (a2 : Int32) (μ : Mz) : Option (Int32 × Mz) := bd (p12_see N  μ) (fun r1 μ1 => bd (p12_isDigit N (gi 2 μ1) μ1) (fun r2 μ2 => if r2 = 0 then bd (p12_fails N 0 (gi 2 μ2) μ2) (fun r13 μ13 => ck (b01 r13) (some (r13, μ13))) else lt (gi 2 μ2) (fun v3 => b12_numberHere_34 N N a1 a2 v3 0 μ2)))
set_option maxHeartbeats 4000000 in
set_option maxRecDepth 100000 in
theorem c12_numberHere_ok (l : Launch) (D : va_G) (θ : Th) (N : Nat) (a1 : Int32) (a2 : Int32) (μ : Mz) (ρ : Int32 × Mz) (h : p12_numberHere N a1 a2 μ = some ρ) : CMi l D θ y12_numberHere c12_numberHere 5 (some .boolean) 2 [.int a1, .int a2] μ ρ := by
  intro sz
  refine j_met l [.ref θ.1, .int a1, .int a2] (by decide +kernel) (Nat.le_of_ble_eq_true rfl) ?_
  intro p e s m args below meth c K hr hlk hnm hs
  generalize va_A (wM θ μ) sz = A at K ⊢
  have K : KM p s m args c c12_numberHere 5 y12_numberHere (some .boolean) D θ A := K
  show JM p l e s m args below meth c D θ A 2 5 (QMi below args s D θ A ρ) μ [(0, .ref θ.1), (1, .int a1), (2, .int a2)] [] 0
  unfold p12_numberHere at h
  refine j_aload_n K 0 d12_numberHere_0 rfl rfl ?_
  obtain ⟨r1, μ1, e1, h⟩ := bd_e h
  refine mcall_i K (c12_see_ok l D θ N  μ _ e1) mG_see mh_see (by decide) (by decide) rfl (st := []) (Nat.le_of_ble_eq_true rfl) rfl d12_numberHere_1 ?_
  refine j_pop K d12_numberHere_4 rfl ?_
  refine j_aload_n K 0 d12_numberHere_5 rfl rfl ?_
  refine j_aload_n K 0 d12_numberHere_6 rfl rfl ?_
  refine mg_next K d12_numberHere_7 ?_
  obtain ⟨r2, μ2, e2, h⟩ := bd_e h
  refine mcall_i K (c12_isDigit_ok l D θ N (gi 2 μ1) μ1 _ e2) mG_isDigit mh_isDigit (by decide) (by decide) rfl (st := []) (Nat.le_of_ble_eq_true rfl) rfl d12_numberHere_10 ?_
  refine j_if_ne (tgt := 26) K d12_numberHere_13 (by decide) (fun q => ?_) (fun q => ?_)
  · have h := if_f h q
    refine j_aload_n K 0 d12_numberHere_26 rfl rfl ?_
    refine mg_next K d12_numberHere_27 ?_
    obtain ⟨v3, e3, h⟩ := lt_e h
    refine j_eqi e3 ?_
    refine j_istore_n (lv' := [(3, .int v3), (0, .ref θ.1), (1, .int a1), (2, .int a2)]) K d12_numberHere_30 rfl (by decide) rfl ?_
    refine j_iconst (v := 0) K d12_numberHere_31 (by decide) ?_
    refine j_istore (lv' := [(4, .int 0), (3, .int v3), (0, .ref θ.1), (1, .int a1), (2, .int a2)]) K d12_numberHere_32 (by decide) rfl ?_
    refine j_sub [2, 3, 4, 1, 0] rfl ?_
    exact t12_numberHere_34 K hr hlk N ρ N a1 a2 v3 0 μ2 h
  · have h := if_t h q
    refine j_aload_n K 0 d12_numberHere_16 rfl rfl ?_
    refine j_iconst (v := 0) K d12_numberHere_17 (by decide) ?_
    refine j_aload_n K 0 d12_numberHere_18 rfl rfl ?_
    refine mg_next K d12_numberHere_19 ?_
    obtain ⟨r13, μ13, e13, h⟩ := bd_e h
    refine mcall_i K (c12_fails_ok l D θ N 0 (gi 2 μ2) μ2 _ e13) mG_fails mh_fails (by decide) (by decide) rfl (st := []) (Nat.le_of_ble_eq_true rfl) rfl d12_numberHere_22 ?_
    obtain ⟨q14, h⟩ := ck_e h
    exact mret_z K h (b01_e q14) hr hlk d12_numberHere_25
