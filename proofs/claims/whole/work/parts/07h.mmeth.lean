def b12_prints_22 (N : Nat) (x1 : Int32) (μ : Mz) : Option (Mz) := bo (p12_slipsBy N x1 μ) (fun μ1 => bo (p12_pays N  μ1) (fun μ2 => lt ((ga 7 μ2 (10 : Int32).toNatClampNeg) + 1) (fun v3 => lt (sa 7 (upd (ga 7 μ2) (10 : Int32).toNatClampNeg v3) μ2) (fun μ4 => some μ4))))
set_option maxHeartbeats 4000000 in
set_option maxRecDepth 100000 in
theorem t12_prints_22 {p : Program} {l : Launch} {e : Env} {s : State} {m : MethodId} {args : Array Value} {below : List Frame} {meth : Method} {c : Code} {D : va_G} {θ : Th} {A : Nat → Prop} (K : KM p s m args c c12_prints 2 y12_prints none D θ A) (hr : meth.sig.returnType = none) (hlk : meth.locks = false) (N : Nat) (ρ : Mz) (x1 : Int32) (μ : Mz) (h : b12_prints_22 N x1 μ = some ρ) : JM p l e s m args below meth c D θ A 5 2 (QMv below args s D θ A ρ) μ [(0, .ref θ.1), (1, .int x1)] [] 22 := by
  unfold b12_prints_22 at h
  refine j_aload_n K 0 d12_prints_22 rfl rfl ?_
  refine j_iload_n K 1 d12_prints_23 rfl rfl ?_
  obtain ⟨μ1, e1, h⟩ := bo_e h
  refine mcall_v K (c12_slipsBy_ok l D θ N x1 μ _ e1) mG_slipsBy mh_slipsBy (by decide) (by decide) rfl (st := []) (Nat.le_of_ble_eq_true rfl) rfl d12_prints_24 ?_
  refine j_aload_n K 0 d12_prints_27 rfl rfl ?_
  obtain ⟨μ2, e2, h⟩ := bo_e h
  refine mcall_v K (c12_pays_ok l D θ N  μ1 _ e2) mG_pays mh_pays (by decide) (by decide) rfl (st := []) (Nat.le_of_ble_eq_true rfl) rfl d12_prints_28 ?_
  refine j_aload_n K 0 d12_prints_31 rfl rfl ?_
  refine mg_said K d12_prints_32 ?_
  refine j_bipush (v := 10) K d12_prints_35 (by decide) ?_
  refine j_dup2 K d12_prints_37 rfl rfl ?_
  refine ml_said K (inb_e (by decide)) d12_prints_38 ?_
  refine j_iconst (v := 1) K d12_prints_39 (by decide) ?_
  refine j_iadd K d12_prints_40 ?_
  obtain ⟨v3, e3, h⟩ := lt_e h
  refine j_eqi e3 ?_
  obtain ⟨μ4, e4, h⟩ := lt_e h
  refine ms_said K (inb_e (by decide)) d12_prints_41 e4 ?_
  exact mret_v K h hr hlk d12_prints_42
def p12_prints (N : Nat) (a1 : Int32) (μ : Mz) : Option (Mz) := if a1 < 0 then b12_prints_22 N a1 μ else lt (43 + a1) (fun v5 => ck (inb v5 129) (lt (ga 7 μ v5.toNatClampNeg) (fun v7 => ck (inb (13 + a1) 129) (lt (sa 7 (upd (ga 7 μ) (13 + a1).toNatClampNeg v7) μ) (fun μ9 => b12_prints_22 N a1 μ9)))))
set_option maxHeartbeats 4000000 in
set_option maxRecDepth 100000 in
theorem c12_prints_ok (l : Launch) (D : va_G) (θ : Th) (N : Nat) (a1 : Int32) (μ : Mz) (ρ : Mz) (h : p12_prints N a1 μ = some ρ) : CMv l D θ y12_prints c12_prints 2 none 5 [.int a1] μ ρ := by
  intro sz
  refine j_met l [.ref θ.1, .int a1] (by decide +kernel) (Nat.le_of_ble_eq_true rfl) ?_
  intro p e s m args below meth c K hr hlk hnm hs
  generalize va_A (wM θ μ) sz = A at K ⊢
  have K : KM p s m args c c12_prints 2 y12_prints none D θ A := K
  show JM p l e s m args below meth c D θ A 5 2 (QMv below args s D θ A ρ) μ [(0, .ref θ.1), (1, .int a1)] [] 0
  unfold p12_prints at h
  refine j_iload_n K 1 d12_prints_0 rfl rfl ?_
  refine j_if_lt (tgt := 22) K d12_prints_1 (by decide) (fun q => ?_) (fun q => ?_)
  · have h := if_t h q
    exact t12_prints_22 K hr hlk N ρ a1 μ h
  · have h := if_f h q
    refine j_aload_n K 0 d12_prints_4 rfl rfl ?_
    refine mg_said K d12_prints_5 ?_
    refine j_bipush (v := 13) K d12_prints_8 (by decide) ?_
    refine j_iload_n K 1 d12_prints_10 rfl rfl ?_
    refine j_iadd K d12_prints_11 ?_
    refine j_aload_n K 0 d12_prints_12 rfl rfl ?_
    refine mg_said K d12_prints_13 ?_
    refine j_bipush (v := 43) K d12_prints_16 (by decide) ?_
    refine j_iload_n K 1 d12_prints_18 rfl rfl ?_
    refine j_iadd K d12_prints_19 ?_
    obtain ⟨v5, e5, h⟩ := lt_e h
    refine j_eqi e5 ?_
    obtain ⟨q6, h⟩ := ck_e h
    refine ml_said K (inb_e q6) d12_prints_20 ?_
    obtain ⟨v7, e7, h⟩ := lt_e h
    refine j_eqi e7 ?_
    obtain ⟨q8, h⟩ := ck_e h
    obtain ⟨μ9, e9, h⟩ := lt_e h
    refine ms_said K (inb_e q8) d12_prints_21 e9 ?_
    exact t12_prints_22 K hr hlk N ρ a1 μ9 h
def p12_count (N : Nat) (a1 : Int32) (μ : Mz) : Option (Int32 × Mz) := if a1.toInt < 0 ∨ 13 < a1.toInt then some ((-1), μ) else if a1 = 0 then some (ga 7 μ (1 : Int32).toNatClampNeg, μ) else if a1 = 1 then bd (p12_rounds N  μ) (fun r1 μ1 => some (r1, μ1)) else if a1 = 2 then some (ga 7 μ (3 : Int32).toNatClampNeg, μ) else if a1 = 3 then some (gi 1 μ, μ) else if a1 = 4 then some (gi 11 μ, μ) else if a1 = 5 then some (ga 7 μ (10 : Int32).toNatClampNeg, μ) else if a1 = 6 then bd (p12_wrongOnes N  μ) (fun r2 μ2 => some (r2, μ2)) else if a1 = 7 then bd (p12_looseOnes N  μ) (fun r3 μ3 => some (r3, μ3)) else if a1 = 8 then some (ga 7 μ (11 : Int32).toNatClampNeg, μ) else if a1 = 9 then some (ga 7 μ (12 : Int32).toNatClampNeg, μ) else if a1 = 10 then some (ga 7 μ (128 : Int32).toNatClampNeg, μ) else if a1 = 11 then some (gi 16 μ, μ) else if a1 = 12 then some (gi 12 μ, μ) else if a1 = 13 then some (gi 0 μ, μ) else none
set_option maxHeartbeats 4000000 in
set_option maxRecDepth 100000 in
theorem c12_count_ok (l : Launch) (D : va_G) (θ : Th) (N : Nat) (a1 : Int32) (μ : Mz) (ρ : Int32 × Mz) (h : p12_count N a1 μ = some ρ) : CMi l D θ y12_count c12_count 2 (some .int) 5 [.int a1] μ ρ := by
  intro sz
  refine j_met l [.ref θ.1, .int a1] (by decide +kernel) (Nat.le_of_ble_eq_true rfl) ?_
  intro p e s m args below meth c K hr hlk hnm hs
  generalize va_A (wM θ μ) sz = A at K ⊢
  have K : KM p s m args c c12_count 2 y12_count (some .int) D θ A := K
  show JM p l e s m args below meth c D θ A 5 2 (QMi below args s D θ A ρ) μ [(0, .ref θ.1), (1, .int a1)] [] 0
  unfold p12_count at h
  refine j_iload_n K 1 d12_count_0 rfl rfl ?_
  by_cases q : a1.toInt < 0 ∨ 13 < a1.toInt
  · have h := if_t h q
    refine j_tabOut (tgt := 159) K d12_count_1 q (by decide) ?_
    refine j_iconst (v := (-1)) K d12_count_159 (by decide) ?_
    exact mret_i K h hr hlk d12_count_160
  · have h := if_f h q
    by_cases q : a1 = 0
    · have h := if_t h q
      have q1 : a1.toInt = 0 := by rw [q]; decide
      refine j_tabIn (tgt := 72) K d12_count_1 (by rw [q1]; decide) (by rw [q1]; decide) (by rw [q1]; rfl) (by decide) ?_
      refine j_aload_n K 0 d12_count_72 rfl rfl ?_
      refine mg_said K d12_count_73 ?_
      refine j_iconst (v := 1) K d12_count_76 (by decide) ?_
      refine ml_said K (inb_e (by decide)) d12_count_77 ?_
      exact mret_i K h hr hlk d12_count_78
    have h := if_f h q
    by_cases q : a1 = 1
    · have h := if_t h q
      have q1 : a1.toInt = 1 := by rw [q]; decide
      refine j_tabIn (tgt := 79) K d12_count_1 (by rw [q1]; decide) (by rw [q1]; decide) (by rw [q1]; rfl) (by decide) ?_
      refine j_aload_n K 0 d12_count_79 rfl rfl ?_
      obtain ⟨r1, μ1, e1, h⟩ := bd_e h
      refine mcall_i K (c12_rounds_ok l D θ N  μ _ e1) mG_rounds mh_rounds (by decide) (by decide) rfl (st := []) (Nat.le_of_ble_eq_true rfl) rfl d12_count_80 ?_
      exact mret_i K h hr hlk d12_count_83
    have h := if_f h q
    by_cases q : a1 = 2
    · have h := if_t h q
      have q1 : a1.toInt = 2 := by rw [q]; decide
      refine j_tabIn (tgt := 84) K d12_count_1 (by rw [q1]; decide) (by rw [q1]; decide) (by rw [q1]; rfl) (by decide) ?_
      refine j_aload_n K 0 d12_count_84 rfl rfl ?_
      refine mg_said K d12_count_85 ?_
      refine j_iconst (v := 3) K d12_count_88 (by decide) ?_
      refine ml_said K (inb_e (by decide)) d12_count_89 ?_
      exact mret_i K h hr hlk d12_count_90
    have h := if_f h q
    by_cases q : a1 = 3
    · have h := if_t h q
      have q1 : a1.toInt = 3 := by rw [q]; decide
      refine j_tabIn (tgt := 91) K d12_count_1 (by rw [q1]; decide) (by rw [q1]; decide) (by rw [q1]; rfl) (by decide) ?_
      refine j_aload_n K 0 d12_count_91 rfl rfl ?_
      refine mg_rules K d12_count_92 ?_
      exact mret_i K h hr hlk d12_count_95
    have h := if_f h q
    by_cases q : a1 = 4
    · have h := if_t h q
      have q1 : a1.toInt = 4 := by rw [q]; decide
      refine j_tabIn (tgt := 96) K d12_count_1 (by rw [q1]; decide) (by rw [q1]; decide) (by rw [q1]; rfl) (by decide) ?_
      refine j_aload_n K 0 d12_count_96 rfl rfl ?_
      refine mg_force K d12_count_97 ?_
      exact mret_i K h hr hlk d12_count_100
    have h := if_f h q
    by_cases q : a1 = 5
    · have h := if_t h q
      have q1 : a1.toInt = 5 := by rw [q]; decide
      refine j_tabIn (tgt := 101) K d12_count_1 (by rw [q1]; decide) (by rw [q1]; decide) (by rw [q1]; rfl) (by decide) ?_
      refine j_aload_n K 0 d12_count_101 rfl rfl ?_
      refine mg_said K d12_count_102 ?_
      refine j_bipush (v := 10) K d12_count_105 (by decide) ?_
      refine ml_said K (inb_e (by decide)) d12_count_107 ?_
      exact mret_i K h hr hlk d12_count_108
    have h := if_f h q
    by_cases q : a1 = 6
    · have h := if_t h q
      have q1 : a1.toInt = 6 := by rw [q]; decide
      refine j_tabIn (tgt := 109) K d12_count_1 (by rw [q1]; decide) (by rw [q1]; decide) (by rw [q1]; rfl) (by decide) ?_
      refine j_aload_n K 0 d12_count_109 rfl rfl ?_
      obtain ⟨r2, μ2, e2, h⟩ := bd_e h
      refine mcall_i K (c12_wrongOnes_ok l D θ N  μ _ e2) mG_wrongOnes mh_wrongOnes (by decide) (by decide) rfl (st := []) (Nat.le_of_ble_eq_true rfl) rfl d12_count_110 ?_
      exact mret_i K h hr hlk d12_count_113
    have h := if_f h q
    by_cases q : a1 = 7
    · have h := if_t h q
      have q1 : a1.toInt = 7 := by rw [q]; decide
      refine j_tabIn (tgt := 114) K d12_count_1 (by rw [q1]; decide) (by rw [q1]; decide) (by rw [q1]; rfl) (by decide) ?_
      refine j_aload_n K 0 d12_count_114 rfl rfl ?_
      obtain ⟨r3, μ3, e3, h⟩ := bd_e h
      refine mcall_i K (c12_looseOnes_ok l D θ N  μ _ e3) mG_looseOnes mh_looseOnes (by decide) (by decide) rfl (st := []) (Nat.le_of_ble_eq_true rfl) rfl d12_count_115 ?_
      exact mret_i K h hr hlk d12_count_118
    have h := if_f h q
    by_cases q : a1 = 8
    · have h := if_t h q
      have q1 : a1.toInt = 8 := by rw [q]; decide
      refine j_tabIn (tgt := 119) K d12_count_1 (by rw [q1]; decide) (by rw [q1]; decide) (by rw [q1]; rfl) (by decide) ?_
      refine j_aload_n K 0 d12_count_119 rfl rfl ?_
      refine mg_said K d12_count_120 ?_
      refine j_bipush (v := 11) K d12_count_123 (by decide) ?_
      refine ml_said K (inb_e (by decide)) d12_count_125 ?_
      exact mret_i K h hr hlk d12_count_126
    have h := if_f h q
    by_cases q : a1 = 9
    · have h := if_t h q
      have q1 : a1.toInt = 9 := by rw [q]; decide
      refine j_tabIn (tgt := 127) K d12_count_1 (by rw [q1]; decide) (by rw [q1]; decide) (by rw [q1]; rfl) (by decide) ?_
      refine j_aload_n K 0 d12_count_127 rfl rfl ?_
      refine mg_said K d12_count_128 ?_
      refine j_bipush (v := 12) K d12_count_131 (by decide) ?_
      refine ml_said K (inb_e (by decide)) d12_count_133 ?_
      exact mret_i K h hr hlk d12_count_134
    have h := if_f h q
    by_cases q : a1 = 10
    · have h := if_t h q
      have q1 : a1.toInt = 10 := by rw [q]; decide
      refine j_tabIn (tgt := 135) K d12_count_1 (by rw [q1]; decide) (by rw [q1]; decide) (by rw [q1]; rfl) (by decide) ?_
      refine j_aload_n K 0 d12_count_135 rfl rfl ?_
      refine mg_said K d12_count_136 ?_
      refine j_sipush (v := 128) K d12_count_139 (by decide) ?_
      refine ml_said K (inb_e (by decide)) d12_count_142 ?_
      exact mret_i K h hr hlk d12_count_143
    have h := if_f h q
    by_cases q : a1 = 11
    · have h := if_t h q
      have q1 : a1.toInt = 11 := by rw [q]; decide
      refine j_tabIn (tgt := 144) K d12_count_1 (by rw [q1]; decide) (by rw [q1]; decide) (by rw [q1]; rfl) (by decide) ?_
      refine j_aload_n K 0 d12_count_144 rfl rfl ?_
      refine mg_undone K d12_count_145 ?_
      exact mret_i K h hr hlk d12_count_148
    have h := if_f h q
    by_cases q : a1 = 12
    · have h := if_t h q
      have q1 : a1.toInt = 12 := by rw [q]; decide
      refine j_tabIn (tgt := 149) K d12_count_1 (by rw [q1]; decide) (by rw [q1]; decide) (by rw [q1]; rfl) (by decide) ?_
      refine j_aload_n K 0 d12_count_149 rfl rfl ?_
      refine mg_x K d12_count_150 ?_
      exact mret_i K h hr hlk d12_count_153
    have h := if_f h q
    by_cases q : a1 = 13
    · have h := if_t h q
      have q1 : a1.toInt = 13 := by rw [q]; decide
      refine j_tabIn (tgt := 154) K d12_count_1 (by rw [q1]; decide) (by rw [q1]; decide) (by rw [q1]; rfl) (by decide) ?_
      refine j_aload_n K 0 d12_count_154 rfl rfl ?_
      refine mg_taped K d12_count_155 ?_
      exact mret_i K h hr hlk d12_count_158
    have h := if_f h q
    exact absurd h (by simp)
def b12_sum_46 (N : Nat) (k9 : Mz → Option (Int32 × Mz)) (t0 : Int32) (μ : Mz) : Option (Int32 × Mz) := lt (si 2 ((gi 2 μ) + 1) μ) (fun μ5 => bd (p12_term N  μ5) (fun r6 μ6 => if r6 = 0 then some (0, μ6) else bo (p12_puts N t0 0 μ6) (fun μ7 => k9  μ7)))
set_option maxHeartbeats 4000000 in
set_option maxRecDepth 100000 in
theorem t12_sum_46 {p : Program} {l : Launch} {e : Env} {s : State} {m : MethodId} {args : Array Value} {below : List Frame} {meth : Method} {c : Code} {D : va_G} {θ : Th} {A : Nat → Prop} (K : KM p s m args c c12_sum 2 y12_sum (some .boolean) D θ A) (hr : meth.sig.returnType = (some .boolean)) (hlk : meth.locks = false) (N : Nat) (ρ : Int32 × Mz) (k9 : Mz → Option (Int32 × Mz)) (hk9 : ∀  (μ : Mz), k9  μ = some ρ → JM p l e s m args below meth c D θ A 6 2 (QMi below args s D θ A ρ) μ [(0, .ref θ.1)] [] 9) (t0 : Int32) (μ : Mz) (h : b12_sum_46 N k9 t0 μ = some ρ) : JM p l e s m args below meth c D θ A 6 2 (QMi below args s D θ A ρ) μ [(0, .ref θ.1)] [.int t0] 46 := by
  unfold b12_sum_46 at h
  refine j_istore_n (lv' := [(1, .int t0), (0, .ref θ.1)]) K d12_sum_46 rfl (by decide) rfl ?_
  refine j_aload_n K 1 d12_sum_47 rfl rfl ?_
  refine j_dup K d12_sum_48 rfl ?_
  refine mg_next K d12_sum_49 ?_
  refine j_iconst (v := 1) K d12_sum_52 (by decide) ?_
  refine j_iadd K d12_sum_53 ?_
  obtain ⟨μ5, e5, h⟩ := lt_e h
  refine mp_next K d12_sum_54 e5 ?_
  refine j_aload_n K 1 d12_sum_57 rfl rfl ?_
  obtain ⟨r6, μ6, e6, h⟩ := bd_e h
  refine mcall_i K (c12_term_ok l D θ N  μ5 _ e6) mG_term mh_term (by decide) (by decide) rfl (st := []) (Nat.le_of_ble_eq_true rfl) rfl d12_sum_58 ?_
  refine j_if_ne (tgt := 66) K d12_sum_61 (by decide) (fun q => ?_) (fun q => ?_)
  · have h := if_f h q
    refine j_aload_n K 1 d12_sum_66 rfl rfl ?_
    refine j_iload_n K 0 d12_sum_67 rfl rfl ?_
    refine j_iconst (v := 0) K d12_sum_68 (by decide) ?_
    obtain ⟨μ7, e7, h⟩ := bo_e h
    refine mcall_v K (c12_puts_ok l D θ N t0 0 μ6 _ e7) mG_puts mh_puts (by decide) (by decide) rfl (st := []) (Nat.le_of_ble_eq_true rfl) rfl d12_sum_69 ?_
    refine j_goto (tgt := 9) K d12_sum_72 (by decide) ?_
    refine j_sub [1] rfl ?_
    exact hk9  μ7 h
  · have h := if_t h q
    refine j_iconst (v := 0) K d12_sum_64 (by decide) ?_
    exact mret_z K h rfl hr hlk d12_sum_65
def b12_sum_27 (N : Nat) (k9 : Mz → Option (Int32 × Mz))  (μ : Mz) : Option (Int32 × Mz) := lt (gi 2 μ) (fun v3 => ck (inb v3 400) (if (ga 0 μ v3.toNatClampNeg) = 43 then b12_sum_46 N k9 2 μ else b12_sum_46 N k9 3 μ))
set_option maxHeartbeats 4000000 in
set_option maxRecDepth 100000 in
theorem t12_sum_27 {p : Program} {l : Launch} {e : Env} {s : State} {m : MethodId} {args : Array Value} {below : List Frame} {meth : Method} {c : Code} {D : va_G} {θ : Th} {A : Nat → Prop} (K : KM p s m args c c12_sum 2 y12_sum (some .boolean) D θ A) (hr : meth.sig.returnType = (some .boolean)) (hlk : meth.locks = false) (N : Nat) (ρ : Int32 × Mz) (k9 : Mz → Option (Int32 × Mz)) (hk9 : ∀  (μ : Mz), k9  μ = some ρ → JM p l e s m args below meth c D θ A 6 2 (QMi below args s D θ A ρ) μ [(0, .ref θ.1)] [] 9)  (μ : Mz) (h : b12_sum_27 N k9  μ = some ρ) : JM p l e s m args below meth c D θ A 6 2 (QMi below args s D θ A ρ) μ [(0, .ref θ.1)] [] 27 := by
  unfold b12_sum_27 at h
  refine j_aload_n K 0 d12_sum_27 rfl rfl ?_
  refine mg_tape K d12_sum_28 ?_
  refine j_aload_n K 0 d12_sum_31 rfl rfl ?_
  refine mg_next K d12_sum_32 ?_
  obtain ⟨v3, e3, h⟩ := lt_e h
  refine j_eqi e3 ?_
  obtain ⟨q4, h⟩ := ck_e h
  refine ml_tape K (inb_e q4) d12_sum_35 ?_
  refine j_bipush (v := 43) K d12_sum_36 (by decide) ?_
  refine j_icmp_ne (tgt := 45) K d12_sum_38 (by decide) (fun q => ?_) (fun q => ?_)
  · have h := if_f h q
    refine j_iconst (v := 3) K d12_sum_45 (by decide) ?_
    exact t12_sum_46 K hr hlk N ρ k9 hk9 3 μ h
  · have h := if_t h q
    refine j_iconst (v := 2) K d12_sum_41 (by decide) ?_
    refine j_goto (tgt := 46) K d12_sum_42 (by decide) ?_
    exact t12_sum_46 K hr hlk N ρ k9 hk9 2 μ h
def b12_sum_9 (N : Nat) : Nat → Mz → Option (Int32 × Mz)
  | 0, _ => none
  | n + 1, μ => bd (p12_see N  μ) (fun r2 μ2 => if r2 = 43 then b12_sum_27 N (b12_sum_9 N n) μ2 else bd (p12_see N  μ2) (fun r8 μ8 => if r8 = 45 then b12_sum_27 N (b12_sum_9 N n) μ8 else some (1, μ8)))
set_option maxHeartbeats 4000000 in
set_option maxRecDepth 100000 in
theorem t12_sum_9 {p : Program} {l : Launch} {e : Env} {s : State} {m : MethodId} {args : Array Value} {below : List Frame} {meth : Method} {c : Code} {D : va_G} {θ : Th} {A : Nat → Prop} (K : KM p s m args c c12_sum 2 y12_sum (some .boolean) D θ A) (hr : meth.sig.returnType = (some .boolean)) (hlk : meth.locks = false) (N : Nat) (ρ : Int32 × Mz) : ∀ (n : Nat)  (μ : Mz), b12_sum_9 N n  μ = some ρ → JM p l e s m args below meth c D θ A 6 2 (QMi below args s D θ A ρ) μ [(0, .ref θ.1)] [] 9 := by
  intro n
  induction n with
  | zero =>
    intro μ h
    exact absurd h (by simp [b12_sum_9])
  | succ n ih =>
    intro μ h
    rw [b12_sum_9] at h
    refine j_aload_n K 0 d12_sum_9 rfl rfl ?_
    obtain ⟨r2, μ2, e2, h⟩ := bd_e h
    refine mcall_i K (c12_see_ok l D θ N  μ _ e2) mG_see mh_see (by decide) (by decide) rfl (st := []) (Nat.le_of_ble_eq_true rfl) rfl d12_sum_10 ?_
    refine j_bipush (v := 43) K d12_sum_13 (by decide) ?_
    refine j_icmp_eq (tgt := 27) K d12_sum_15 (by decide) (fun q => ?_) (fun q => ?_)
    · have h := if_t h q
      exact t12_sum_27 K hr hlk N ρ (b12_sum_9 N n) ih  μ2 h
    · have h := if_f h q
      refine j_aload_n K 0 d12_sum_18 rfl rfl ?_
      obtain ⟨r8, μ8, e8, h⟩ := bd_e h
      refine mcall_i K (c12_see_ok l D θ N  μ2 _ e8) mG_see mh_see (by decide) (by decide) rfl (st := []) (Nat.le_of_ble_eq_true rfl) rfl d12_sum_19 ?_
      refine j_bipush (v := 45) K d12_sum_22 (by decide) ?_
      refine j_icmp_ne (tgt := 75) K d12_sum_24 (by decide) (fun q => ?_) (fun q => ?_)
      · have h := if_f h q
        refine j_iconst (v := 1) K d12_sum_75 (by decide) ?_
        exact mret_z K h rfl hr hlk d12_sum_76
      · have h := if_t h q
        exact t12_sum_27 K hr hlk N ρ (b12_sum_9 N n) ih  μ8 h
def p12_sum (N : Nat)  (μ : Mz) : Option (Int32 × Mz) := bd (p12_term N  μ) (fun r1 μ1 => if r1 = 0 then some (0, μ1) else b12_sum_9 N N μ1)
set_option maxHeartbeats 4000000 in
set_option maxRecDepth 100000 in
theorem c12_sum_ok (l : Launch) (D : va_G) (θ : Th) (N : Nat)  (μ : Mz) (ρ : Int32 × Mz) (h : p12_sum N  μ = some ρ) : CMi l D θ y12_sum c12_sum 2 (some .boolean) 6 [] μ ρ := by
  intro sz
  refine j_met l [.ref θ.1] (by decide +kernel) (Nat.le_of_ble_eq_true rfl) ?_
  intro p e s m args below meth c K hr hlk hnm hs
  generalize va_A (wM θ μ) sz = A at K ⊢
  have K : KM p s m args c c12_sum 2 y12_sum (some .boolean) D θ A := K
  show JM p l e s m args below meth c D θ A 6 2 (QMi below args s D θ A ρ) μ [(0, .ref θ.1)] [] 0
  unfold p12_sum at h
  refine j_aload_n K 0 d12_sum_0 rfl rfl ?_
  obtain ⟨r1, μ1, e1, h⟩ := bd_e h
  refine mcall_i K (c12_term_ok l D θ N  μ _ e1) mG_term mh_term (by decide) (by decide) rfl (st := []) (Nat.le_of_ble_eq_true rfl) rfl d12_sum_1 ?_
  refine j_if_ne (tgt := 9) K d12_sum_4 (by decide) (fun q => ?_) (fun q => ?_)
  · have h := if_f h q
    exact t12_sum_9 K hr hlk N ρ N  μ1 h
  · have h := if_t h q
    refine j_iconst (v := 0) K d12_sum_7 (by decide) ?_
    exact mret_z K h rfl hr hlk d12_sum_8
def b12_choice_47 (N : Nat) (k7 : Int32 → Int64 → Int32 → Mz → Option (Int32 × Mz)) (x1 : Int32) (x2 : Int64) (x4 : Int32) (t0 : Int64) (μ : Mz) : Option (Int32 × Mz) := if 0 < (lg_cmp t0 x2) then lt (x4 + 1) (fun v3 => k7 x4 t0 v3 μ) else lt (x4 + 1) (fun v4 => k7 x1 x2 v4 μ)
set_option maxHeartbeats 4000000 in
set_option maxRecDepth 100000 in
theorem t12_choice_47 {p : Program} {l : Launch} {e : Env} {s : State} {m : MethodId} {args : Array Value} {below : List Frame} {meth : Method} {c : Code} {D : va_G} {θ : Th} {A : Nat → Prop} (K : KM p s m args c c12_choice 7 y12_choice (some .int) D θ A) (hr : meth.sig.returnType = (some .int)) (hlk : meth.locks = false) (N : Nat) (ρ : Int32 × Mz) (k7 : Int32 → Int64 → Int32 → Mz → Option (Int32 × Mz)) (hk7 : ∀ (x1 : Int32) (x2 : Int64) (x4 : Int32) (μ : Mz), k7 x1 x2 x4 μ = some ρ → JM p l e s m args below meth c D θ A 6 7 (QMi below args s D θ A ρ) μ [(0, .ref θ.1), (1, .int x1), (2, .long x2), (4, .int x4)] [] 7) (x1 : Int32) (x2 : Int64) (x4 : Int32) (t0 : Int64) (μ : Mz) (h : b12_choice_47 N k7 x1 x2 x4 t0 μ = some ρ) : JM p l e s m args below meth c D θ A 6 7 (QMi below args s D θ A ρ) μ [(0, .ref θ.1), (1, .int x1), (2, .long x2), (4, .int x4)] [.long t0] 47 := by
  unfold b12_choice_47 at h
  refine j_lstore (lv' := [(5, .long t0), (0, .ref θ.1), (1, .int x1), (2, .long x2), (4, .int x4)]) K d12_choice_47 (by decide) rfl ?_
  refine j_lload K 0 d12_choice_49 rfl ?_
  refine j_lload_n K 3 d12_choice_51 rfl rfl ?_
  refine j_lcmp K d12_choice_52 ?_
  refine j_if_gt (tgt := 59) K d12_choice_53 (by decide) (fun q => ?_) (fun q => ?_)
  · have h := if_t h q
    refine j_iload K 4 d12_choice_59 rfl ?_
    refine j_istore_n (lv' := [(1, .int x4), (5, .long t0), (0, .ref θ.1), (2, .long x2), (4, .int x4)]) K d12_choice_61 rfl (by decide) rfl ?_
    refine j_lload K 1 d12_choice_62 rfl ?_
    refine j_lstore_n (lv' := [(2, .long t0), (1, .int x4), (5, .long t0), (0, .ref θ.1), (4, .int x4)]) K d12_choice_64 rfl (by decide) rfl ?_
    obtain ⟨v3, e3, h⟩ := lt_e h
    refine j_iinc (k := 4) (v := v3) (lv' := [(4, .int v3), (2, .long t0), (1, .int x4), (5, .long t0), (0, .ref θ.1)]) K d12_choice_65 rfl (by rw [e3]; rfl) (by decide) rfl ?_
    refine j_goto (tgt := 7) K d12_choice_68 (by decide) ?_
    refine j_sub [4, 2, 1, 0] rfl ?_
    exact hk7 x4 t0 v3 μ h
  · have h := if_f h q
    refine j_goto (tgt := 65) K d12_choice_56 (by decide) ?_
    obtain ⟨v4, e4, h⟩ := lt_e h
    refine j_iinc (k := 4) (v := v4) (lv' := [(4, .int v4), (5, .long t0), (0, .ref θ.1), (1, .int x1), (2, .long x2)]) K d12_choice_65 rfl (by rw [e4]; rfl) (by decide) rfl ?_
    refine j_goto (tgt := 7) K d12_choice_68 (by decide) ?_
    refine j_sub [2, 3, 4, 0] rfl ?_
    exact hk7 x1 x2 v4 μ h
def b12_choice_7 (N : Nat) : Nat → Int32 → Int64 → Int32 → Mz → Option (Int32 × Mz)
  | 0, _, _, _, _ => none
  | n + 1, x1, x2, x4, μ => if (ga 7 μ (3 : Int32).toNatClampNeg) ≤ x4 then some (x1, μ) else bd (p12_isLoose N x4 μ) (fun r1 μ1 => if r1 = 0 then lt (x4 + 1) (fun v5 => b12_choice_7 N n x1 x2 v5 μ1) else if 0 ≤ (gi 11 μ1) then bd (p12_sumOf N x4 μ1) (fun r2 μ2 => b12_choice_47 N (b12_choice_7 N n) x1 x2 x4 r2 μ2) else b12_choice_47 N (b12_choice_7 N n) x1 x2 x4 1 μ1)
set_option maxHeartbeats 4000000 in
set_option maxRecDepth 100000 in
theorem t12_choice_7 {p : Program} {l : Launch} {e : Env} {s : State} {m : MethodId} {args : Array Value} {below : List Frame} {meth : Method} {c : Code} {D : va_G} {θ : Th} {A : Nat → Prop} (K : KM p s m args c c12_choice 7 y12_choice (some .int) D θ A) (hr : meth.sig.returnType = (some .int)) (hlk : meth.locks = false) (N : Nat) (ρ : Int32 × Mz) : ∀ (n : Nat) (x1 : Int32) (x2 : Int64) (x4 : Int32) (μ : Mz), b12_choice_7 N n x1 x2 x4 μ = some ρ → JM p l e s m args below meth c D θ A 6 7 (QMi below args s D θ A ρ) μ [(0, .ref θ.1), (1, .int x1), (2, .long x2), (4, .int x4)] [] 7 := by
  intro n
  induction n with
  | zero =>
    intro x1 x2 x4 μ h
    exact absurd h (by simp [b12_choice_7])
  | succ n ih =>
    intro x1 x2 x4 μ h
    rw [b12_choice_7] at h
    refine j_iload K 3 d12_choice_7 rfl ?_
    refine j_aload_n K 0 d12_choice_9 rfl rfl ?_
    refine mg_said K d12_choice_10 ?_
    refine j_iconst (v := 3) K d12_choice_13 (by decide) ?_
    refine ml_said K (inb_e (by decide)) d12_choice_14 ?_
    refine j_icmp_ge (tgt := 71) K d12_choice_15 (by decide) (fun q => ?_) (fun q => ?_)
    · have h := if_t h q
      refine j_iload_n K 1 d12_choice_71 rfl rfl ?_
      exact mret_i K h hr hlk d12_choice_72
    · have h := if_f h q
      refine j_aload_n K 0 d12_choice_18 rfl rfl ?_
      refine j_iload K 3 d12_choice_19 rfl ?_
      obtain ⟨r1, μ1, e1, h⟩ := bd_e h
      refine mcall_i K (c12_isLoose_ok l D θ N x4 μ _ e1) mG_isLoose mh_isLoose (by decide) (by decide) rfl (st := []) (Nat.le_of_ble_eq_true rfl) rfl d12_choice_21 ?_
      refine j_if_ne (tgt := 30) K d12_choice_24 (by decide) (fun q => ?_) (fun q => ?_)
      · have h := if_f h q
        refine j_aload_n K 0 d12_choice_30 rfl rfl ?_
        refine mg_force K d12_choice_31 ?_
        refine j_if_ge (tgt := 41) K d12_choice_34 (by decide) (fun q => ?_) (fun q => ?_)
        · have h := if_t h q
          refine j_aload_n K 0 d12_choice_41 rfl rfl ?_
          refine j_iload K 3 d12_choice_42 rfl ?_
          obtain ⟨r2, μ2, e2, h⟩ := bd_e h
          refine mcall_l K (c12_sumOf_ok l D θ N x4 μ1 _ e2) mG_sumOf mh_sumOf (by decide) (by decide) rfl (st := []) (Nat.le_of_ble_eq_true rfl) rfl d12_choice_44 ?_
          exact t12_choice_47 K hr hlk N ρ (b12_choice_7 N n) ih x1 x2 x4 r2 μ2 h
        · have h := if_f h q
          refine j_lconst (v := 1) K d12_choice_37 (by decide) ?_
          refine j_goto (tgt := 47) K d12_choice_38 (by decide) ?_
          exact t12_choice_47 K hr hlk N ρ (b12_choice_7 N n) ih x1 x2 x4 1 μ1 h
      · have h := if_t h q
        refine j_goto (tgt := 65) K d12_choice_27 (by decide) ?_
        obtain ⟨v5, e5, h⟩ := lt_e h
        refine j_iinc (k := 3) (v := v5) (lv' := [(4, .int v5), (0, .ref θ.1), (1, .int x1), (2, .long x2)]) K d12_choice_65 rfl (by rw [e5]; rfl) (by decide) rfl ?_
        refine j_goto (tgt := 7) K d12_choice_68 (by decide) ?_
        refine j_sub [1, 2, 3, 0] rfl ?_
        exact ih x1 x2 v5 μ1 h
def p12_choice (N : Nat)  (μ : Mz) : Option (Int32 × Mz) := b12_choice_7 N N (-1) 0 0 μ
set_option maxHeartbeats 4000000 in
set_option maxRecDepth 100000 in
theorem c12_choice_ok (l : Launch) (D : va_G) (θ : Th) (N : Nat)  (μ : Mz) (ρ : Int32 × Mz) (h : p12_choice N  μ = some ρ) : CMi l D θ y12_choice c12_choice 7 (some .int) 6 [] μ ρ := by
  intro sz
  refine j_met l [.ref θ.1] (by decide +kernel) (Nat.le_of_ble_eq_true rfl) ?_
  intro p e s m args below meth c K hr hlk hnm hs
  generalize va_A (wM θ μ) sz = A at K ⊢
  have K : KM p s m args c c12_choice 7 y12_choice (some .int) D θ A := K
  show JM p l e s m args below meth c D θ A 6 7 (QMi below args s D θ A ρ) μ [(0, .ref θ.1)] [] 0
  unfold p12_choice at h
  refine j_iconst (v := (-1)) K d12_choice_0 (by decide) ?_
  refine j_istore_n (lv' := [(1, .int (-1)), (0, .ref θ.1)]) K d12_choice_1 rfl (by decide) rfl ?_
  refine j_lconst (v := 0) K d12_choice_2 (by decide) ?_
  refine j_lstore_n (lv' := [(2, .long 0), (1, .int (-1)), (0, .ref θ.1)]) K d12_choice_3 rfl (by decide) rfl ?_
  refine j_iconst (v := 0) K d12_choice_4 (by decide) ?_
  refine j_istore (lv' := [(4, .int 0), (2, .long 0), (1, .int (-1)), (0, .ref θ.1)]) K d12_choice_5 (by decide) rfl ?_
  refine j_sub [3, 2, 1, 0] rfl ?_
  exact t12_choice_7 K hr hlk N ρ N (-1) 0 0 μ h
def b12_wrongByRow_65 (N : Nat) (x2 : Int32) (μ : Mz) : Option (Int32 × Mz) := bd (p12_wrongOnes N  μ) (fun r1 μ1 => bo (p12_bits N r1) (fun r2 => bo (p12_laysBack N  μ1) (fun μ3 => if x2 = 0 then some ((-1), μ3) else some (r2, μ3))))
set_option maxHeartbeats 4000000 in
set_option maxRecDepth 100000 in
theorem t12_wrongByRow_65 {p : Program} {l : Launch} {e : Env} {s : State} {m : MethodId} {args : Array Value} {below : List Frame} {meth : Method} {c : Code} {D : va_G} {θ : Th} {A : Nat → Prop} (K : KM p s m args c c12_wrongByRow 4 y12_wrongByRow (some .int) D θ A) (hr : meth.sig.returnType = (some .int)) (hlk : meth.locks = false) (N : Nat) (ρ : Int32 × Mz) (x2 : Int32) (μ : Mz) (h : b12_wrongByRow_65 N x2 μ = some ρ) : JM p l e s m args below meth c D θ A 6 4 (QMi below args s D θ A ρ) μ [(0, .ref θ.1), (2, .int x2)] [] 65 := by
  unfold b12_wrongByRow_65 at h
  refine j_aload_n K 0 d12_wrongByRow_65 rfl rfl ?_
  obtain ⟨r1, μ1, e1, h⟩ := bd_e h
  refine mcall_i K (c12_wrongOnes_ok l D θ N  μ _ e1) mG_wrongOnes mh_wrongOnes (by decide) (by decide) rfl (st := []) (Nat.le_of_ble_eq_true rfl) rfl d12_wrongByRow_66 ?_
  obtain ⟨r2, e2, h⟩ := bo_e h
  refine mcalls_i K (c12_bits_ok l D θ N r1 _ e2) mG_bits mh_bits (by decide) (by decide) rfl (st := []) (Nat.le_of_ble_eq_true rfl) rfl d12_wrongByRow_69 ?_
  refine j_istore_n (lv' := [(3, .int r2), (0, .ref θ.1), (2, .int x2)]) K d12_wrongByRow_72 rfl (by decide) rfl ?_
  refine j_aload_n K 1 d12_wrongByRow_73 rfl rfl ?_
  obtain ⟨μ3, e3, h⟩ := bo_e h
  refine mcall_v K (c12_laysBack_ok l D θ N  μ1 _ e3) mG_laysBack mh_laysBack (by decide) (by decide) rfl (st := []) (Nat.le_of_ble_eq_true rfl) rfl d12_wrongByRow_74 ?_
  refine j_iload_n K 2 d12_wrongByRow_77 rfl rfl ?_
  refine j_if_eq (tgt := 85) K d12_wrongByRow_78 (by decide) (fun q => ?_) (fun q => ?_)
  · have h := if_t h q
    refine j_iconst (v := (-1)) K d12_wrongByRow_85 (by decide) ?_
    exact mret_i K h hr hlk d12_wrongByRow_86
  · have h := if_f h q
    refine j_iload_n K 0 d12_wrongByRow_81 rfl rfl ?_
    refine j_goto (tgt := 86) K d12_wrongByRow_82 (by decide) ?_
    exact mret_i K h hr hlk d12_wrongByRow_86
def b12_wrongByRow_40 (N : Nat) (k4 : Int32 → Int32 → Int32 → Mz → Option (Int32 × Mz)) (x1 : Int32) (x3 : Int32) (t0 : Int32) (μ : Mz) : Option (Int32 × Mz) := if t0 = 0 then bo (p12_prints N (-1) μ) (fun μ5 => lt (x3 + 1) (fun v6 => k4 x1 t0 v6 μ5)) else ck (inb x3 4) (bo (p12_prints N (ga 10 μ x3.toNatClampNeg) μ) (fun μ8 => lt (x3 + 1) (fun v9 => k4 x1 t0 v9 μ8)))
set_option maxHeartbeats 4000000 in
set_option maxRecDepth 100000 in
theorem t12_wrongByRow_40 {p : Program} {l : Launch} {e : Env} {s : State} {m : MethodId} {args : Array Value} {below : List Frame} {meth : Method} {c : Code} {D : va_G} {θ : Th} {A : Nat → Prop} (K : KM p s m args c c12_wrongByRow 4 y12_wrongByRow (some .int) D θ A) (hr : meth.sig.returnType = (some .int)) (hlk : meth.locks = false) (N : Nat) (ρ : Int32 × Mz) (k4 : Int32 → Int32 → Int32 → Mz → Option (Int32 × Mz)) (hk4 : ∀ (x1 : Int32) (x2 : Int32) (x3 : Int32) (μ : Mz), k4 x1 x2 x3 μ = some ρ → JM p l e s m args below meth c D θ A 6 4 (QMi below args s D θ A ρ) μ [(0, .ref θ.1), (1, .int x1), (2, .int x2), (3, .int x3)] [] 4) (x1 : Int32) (x3 : Int32) (t0 : Int32) (μ : Mz) (h : b12_wrongByRow_40 N k4 x1 x3 t0 μ = some ρ) : JM p l e s m args below meth c D θ A 6 4 (QMi below args s D θ A ρ) μ [(0, .ref θ.1), (1, .int x1), (3, .int x3)] [.int t0] 40 := by
  unfold b12_wrongByRow_40 at h
  refine j_istore_n (lv' := [(2, .int t0), (0, .ref θ.1), (1, .int x1), (3, .int x3)]) K d12_wrongByRow_40 rfl (by decide) rfl ?_
  refine j_aload_n K 1 d12_wrongByRow_41 rfl rfl ?_
  refine j_iload_n K 0 d12_wrongByRow_42 rfl rfl ?_
  refine j_if_eq (tgt := 55) K d12_wrongByRow_43 (by decide) (fun q => ?_) (fun q => ?_)
  · have h := if_t h q
    refine j_iconst (v := (-1)) K d12_wrongByRow_55 (by decide) ?_
    obtain ⟨μ5, e5, h⟩ := bo_e h
    refine mcall_v K (c12_prints_ok l D θ N (-1) μ _ e5) mG_prints mh_prints (by decide) (by decide) rfl (st := []) (Nat.le_of_ble_eq_true rfl) rfl d12_wrongByRow_56 ?_
    obtain ⟨v6, e6, h⟩ := lt_e h
    refine j_iinc (k := 3) (v := v6) (lv' := [(3, .int v6), (2, .int t0), (0, .ref θ.1), (1, .int x1)]) K d12_wrongByRow_59 rfl (by rw [e6]; rfl) (by decide) rfl ?_
    refine j_goto (tgt := 4) K d12_wrongByRow_62 (by decide) ?_
    refine j_sub [2, 3, 1, 0] rfl ?_
    exact hk4 x1 t0 v6 μ5 h
  · have h := if_f h q
    refine j_aload_n K 1 d12_wrongByRow_46 rfl rfl ?_
    refine mg_rowNow K d12_wrongByRow_47 ?_
    refine j_iload_n K 3 d12_wrongByRow_50 rfl rfl ?_
    obtain ⟨q7, h⟩ := ck_e h
    refine ml_rowNow K (inb_e q7) d12_wrongByRow_51 ?_
    refine j_goto (tgt := 56) K d12_wrongByRow_52 (by decide) ?_
    obtain ⟨μ8, e8, h⟩ := bo_e h
    refine mcall_v K (c12_prints_ok l D θ N (ga 10 μ x3.toNatClampNeg) μ _ e8) mG_prints mh_prints (by decide) (by decide) rfl (st := []) (Nat.le_of_ble_eq_true rfl) rfl d12_wrongByRow_56 ?_
    obtain ⟨v9, e9, h⟩ := lt_e h
    refine j_iinc (k := 3) (v := v9) (lv' := [(3, .int v9), (2, .int t0), (0, .ref θ.1), (1, .int x1)]) K d12_wrongByRow_59 rfl (by rw [e9]; rfl) (by decide) rfl ?_
    refine j_goto (tgt := 4) K d12_wrongByRow_62 (by decide) ?_
    refine j_sub [2, 3, 1, 0] rfl ?_
    exact hk4 x1 t0 v9 μ8 h
def b12_wrongByRow_35 (N : Nat) (k4 : Int32 → Int32 → Int32 → Mz → Option (Int32 × Mz)) (x1 : Int32) (x3 : Int32) (μ : Mz) : Option (Int32 × Mz) := b12_wrongByRow_40 N k4 x1 x3 1 μ
set_option maxHeartbeats 4000000 in
set_option maxRecDepth 100000 in
theorem t12_wrongByRow_35 {p : Program} {l : Launch} {e : Env} {s : State} {m : MethodId} {args : Array Value} {below : List Frame} {meth : Method} {c : Code} {D : va_G} {θ : Th} {A : Nat → Prop} (K : KM p s m args c c12_wrongByRow 4 y12_wrongByRow (some .int) D θ A) (hr : meth.sig.returnType = (some .int)) (hlk : meth.locks = false) (N : Nat) (ρ : Int32 × Mz) (k4 : Int32 → Int32 → Int32 → Mz → Option (Int32 × Mz)) (hk4 : ∀ (x1 : Int32) (x2 : Int32) (x3 : Int32) (μ : Mz), k4 x1 x2 x3 μ = some ρ → JM p l e s m args below meth c D θ A 6 4 (QMi below args s D θ A ρ) μ [(0, .ref θ.1), (1, .int x1), (2, .int x2), (3, .int x3)] [] 4) (x1 : Int32) (x3 : Int32) (μ : Mz) (h : b12_wrongByRow_35 N k4 x1 x3 μ = some ρ) : JM p l e s m args below meth c D θ A 6 4 (QMi below args s D θ A ρ) μ [(0, .ref θ.1), (1, .int x1), (3, .int x3)] [] 35 := by
  unfold b12_wrongByRow_35 at h
  refine j_iconst (v := 1) K d12_wrongByRow_35 (by decide) ?_
  refine j_goto (tgt := 40) K d12_wrongByRow_36 (by decide) ?_
  exact t12_wrongByRow_40 K hr hlk N ρ k4 hk4 x1 x3 1 μ h
def b12_wrongByRow_4 (N : Nat) : Nat → Int32 → Int32 → Int32 → Mz → Option (Int32 × Mz)
  | 0, _, _, _, _ => none
  | n + 1, x1, x2, x3, μ => if x1 ≤ x3 then b12_wrongByRow_65 N x2 μ else if x2 = 0 then b12_wrongByRow_65 N x2 μ else ck (inb x3 4) (if (ga 10 μ x3.toNatClampNeg) < 0 then b12_wrongByRow_35 N (b12_wrongByRow_4 N n) x1 x3 μ else ck (inb x3 4) (bd (p12_isLoose N (ga 10 μ x3.toNatClampNeg) μ) (fun r11 μ11 => if r11 = 0 then b12_wrongByRow_40 N (b12_wrongByRow_4 N n) x1 x3 0 μ11 else b12_wrongByRow_35 N (b12_wrongByRow_4 N n) x1 x3 μ11)))
set_option maxHeartbeats 4000000 in
set_option maxRecDepth 100000 in
theorem t12_wrongByRow_4 {p : Program} {l : Launch} {e : Env} {s : State} {m : MethodId} {args : Array Value} {below : List Frame} {meth : Method} {c : Code} {D : va_G} {θ : Th} {A : Nat → Prop} (K : KM p s m args c c12_wrongByRow 4 y12_wrongByRow (some .int) D θ A) (hr : meth.sig.returnType = (some .int)) (hlk : meth.locks = false) (N : Nat) (ρ : Int32 × Mz) : ∀ (n : Nat) (x1 : Int32) (x2 : Int32) (x3 : Int32) (μ : Mz), b12_wrongByRow_4 N n x1 x2 x3 μ = some ρ → JM p l e s m args below meth c D θ A 6 4 (QMi below args s D θ A ρ) μ [(0, .ref θ.1), (1, .int x1), (2, .int x2), (3, .int x3)] [] 4 := by
  intro n
  induction n with
  | zero =>
    intro x1 x2 x3 μ h
    exact absurd h (by simp [b12_wrongByRow_4])
  | succ n ih =>
    intro x1 x2 x3 μ h
    rw [b12_wrongByRow_4] at h
    refine j_iload_n K 3 d12_wrongByRow_4 rfl rfl ?_
    refine j_iload_n K 1 d12_wrongByRow_5 rfl rfl ?_
    refine j_icmp_ge (tgt := 65) K d12_wrongByRow_6 (by decide) (fun q => ?_) (fun q => ?_)
    · have h := if_t h q
      refine j_sub [0, 2] rfl ?_
      exact t12_wrongByRow_65 K hr hlk N ρ x2 μ h
    · have h := if_f h q
      refine j_iload_n K 2 d12_wrongByRow_9 rfl rfl ?_
      refine j_if_eq (tgt := 65) K d12_wrongByRow_10 (by decide) (fun q => ?_) (fun q => ?_)
      · have h := if_t h q
        refine j_sub [0, 2] rfl ?_
        exact t12_wrongByRow_65 K hr hlk N ρ x2 μ h
      · have h := if_f h q
        refine j_aload_n K 0 d12_wrongByRow_13 rfl rfl ?_
        refine mg_rowNow K d12_wrongByRow_14 ?_
        refine j_iload_n K 3 d12_wrongByRow_17 rfl rfl ?_
        obtain ⟨q4, h⟩ := ck_e h
        refine ml_rowNow K (inb_e q4) d12_wrongByRow_18 ?_
        refine j_if_lt (tgt := 35) K d12_wrongByRow_19 (by decide) (fun q => ?_) (fun q => ?_)
        · have h := if_t h q
          refine j_sub [0, 1, 3] rfl ?_
          exact t12_wrongByRow_35 K hr hlk N ρ (b12_wrongByRow_4 N n) ih x1 x3 μ h
        · have h := if_f h q
          refine j_aload_n K 0 d12_wrongByRow_22 rfl rfl ?_
          refine j_aload_n K 0 d12_wrongByRow_23 rfl rfl ?_
          refine mg_rowNow K d12_wrongByRow_24 ?_
          refine j_iload_n K 3 d12_wrongByRow_27 rfl rfl ?_
          obtain ⟨q10, h⟩ := ck_e h
          refine ml_rowNow K (inb_e q10) d12_wrongByRow_28 ?_
          obtain ⟨r11, μ11, e11, h⟩ := bd_e h
          refine mcall_i K (c12_isLoose_ok l D θ N (ga 10 μ x3.toNatClampNeg) μ _ e11) mG_isLoose mh_isLoose (by decide) (by decide) rfl (st := []) (Nat.le_of_ble_eq_true rfl) rfl d12_wrongByRow_29 ?_
          refine j_if_eq (tgt := 39) K d12_wrongByRow_32 (by decide) (fun q => ?_) (fun q => ?_)
          · have h := if_t h q
            refine j_iconst (v := 0) K d12_wrongByRow_39 (by decide) ?_
            refine j_sub [0, 1, 3] rfl ?_
            exact t12_wrongByRow_40 K hr hlk N ρ (b12_wrongByRow_4 N n) ih x1 x3 0 μ11 h
          · have h := if_f h q
            refine j_sub [0, 1, 3] rfl ?_
            exact t12_wrongByRow_35 K hr hlk N ρ (b12_wrongByRow_4 N n) ih x1 x3 μ11 h
def p12_wrongByRow (N : Nat) (a1 : Int32) (μ : Mz) : Option (Int32 × Mz) := b12_wrongByRow_4 N N a1 1 0 μ
set_option maxHeartbeats 4000000 in
set_option maxRecDepth 100000 in
theorem c12_wrongByRow_ok (l : Launch) (D : va_G) (θ : Th) (N : Nat) (a1 : Int32) (μ : Mz) (ρ : Int32 × Mz) (h : p12_wrongByRow N a1 μ = some ρ) : CMi l D θ y12_wrongByRow c12_wrongByRow 4 (some .int) 6 [.int a1] μ ρ := by
  intro sz
  refine j_met l [.ref θ.1, .int a1] (by decide +kernel) (Nat.le_of_ble_eq_true rfl) ?_
  intro p e s m args below meth c K hr hlk hnm hs
  generalize va_A (wM θ μ) sz = A at K ⊢
  have K : KM p s m args c c12_wrongByRow 4 y12_wrongByRow (some .int) D θ A := K
  show JM p l e s m args below meth c D θ A 6 4 (QMi below args s D θ A ρ) μ [(0, .ref θ.1), (1, .int a1)] [] 0
  unfold p12_wrongByRow at h
  refine j_iconst (v := 1) K d12_wrongByRow_0 (by decide) ?_
  refine j_istore_n (lv' := [(2, .int 1), (0, .ref θ.1), (1, .int a1)]) K d12_wrongByRow_1 rfl (by decide) rfl ?_
  refine j_iconst (v := 0) K d12_wrongByRow_2 (by decide) ?_
  refine j_istore_n (lv' := [(3, .int 0), (2, .int 1), (0, .ref θ.1), (1, .int a1)]) K d12_wrongByRow_3 rfl (by decide) rfl ?_
  refine j_sub [2, 3, 1, 0] rfl ?_
  exact t12_wrongByRow_4 K hr hlk N ρ N a1 1 0 μ h
def b12_compare_152 (N : Nat) (t0 : Int32) (μ : Mz) : Option (Int32 × Mz) := bd (p12_sum N  μ) (fun r6 μ6 => if r6 = 0 then some (0, μ6) else bo (p12_puts N (6 + t0) 0 μ6) (fun μ7 => some (1, μ7)))
set_option maxHeartbeats 4000000 in
set_option maxRecDepth 100000 in
theorem t12_compare_152 {p : Program} {l : Launch} {e : Env} {s : State} {m : MethodId} {args : Array Value} {below : List Frame} {meth : Method} {c : Code} {D : va_G} {θ : Th} {A : Nat → Prop} (K : KM p s m args c c12_compare 5 y12_compare (some .boolean) D θ A) (hr : meth.sig.returnType = (some .boolean)) (hlk : meth.locks = false) (N : Nat) (ρ : Int32 × Mz) (t0 : Int32) (μ : Mz) (h : b12_compare_152 N t0 μ = some ρ) : JM p l e s m args below meth c D θ A 7 5 (QMi below args s D θ A ρ) μ [(0, .ref θ.1)] [.int t0] 152 := by
  unfold b12_compare_152 at h
  refine j_istore (lv' := [(4, .int t0), (0, .ref θ.1)]) K d12_compare_152 (by decide) rfl ?_
  refine j_aload_n K 1 d12_compare_154 rfl rfl ?_
  obtain ⟨r6, μ6, e6, h⟩ := bd_e h
  refine mcall_i K (c12_sum_ok l D θ N  μ _ e6) mG_sum mh_sum (by decide) (by decide) rfl (st := []) (Nat.le_of_ble_eq_true rfl) rfl d12_compare_155 ?_
  refine j_if_ne (tgt := 163) K d12_compare_158 (by decide) (fun q => ?_) (fun q => ?_)
  · have h := if_f h q
    refine j_aload_n K 1 d12_compare_163 rfl rfl ?_
    refine j_bipush (v := 6) K d12_compare_164 (by decide) ?_
    refine j_iload K 0 d12_compare_166 rfl ?_
    refine j_iadd K d12_compare_168 ?_
    refine j_iconst (v := 0) K d12_compare_169 (by decide) ?_
    obtain ⟨μ7, e7, h⟩ := bo_e h
    refine mcall_v K (c12_puts_ok l D θ N (6 + t0) 0 μ6 _ e7) mG_puts mh_puts (by decide) (by decide) rfl (st := []) (Nat.le_of_ble_eq_true rfl) rfl d12_compare_170 ?_
    refine j_iconst (v := 1) K d12_compare_173 (by decide) ?_
    exact mret_z K h rfl hr hlk d12_compare_174
  · have h := if_t h q
    refine j_iconst (v := 0) K d12_compare_161 (by decide) ?_
    exact mret_z K h rfl hr hlk d12_compare_162
def b12_compare_105 (N : Nat) (x1 : Int32) (x2 : Int32) (x3 : Int32) (μ : Mz) : Option (Int32 × Mz) := bd (p12_makes N x2 μ) (fun r5 μ5 => if r5 = 0 then some (0, μ5) else if x1 = 60 then if x3 = 0 then b12_compare_152 N 0 μ5 else b12_compare_152 N 1 μ5 else if x1 = 61 then b12_compare_152 N 2 μ5 else if x3 = 0 then b12_compare_152 N 4 μ5 else b12_compare_152 N 3 μ5)
set_option maxHeartbeats 4000000 in
set_option maxRecDepth 100000 in
theorem t12_compare_105 {p : Program} {l : Launch} {e : Env} {s : State} {m : MethodId} {args : Array Value} {below : List Frame} {meth : Method} {c : Code} {D : va_G} {θ : Th} {A : Nat → Prop} (K : KM p s m args c c12_compare 5 y12_compare (some .boolean) D θ A) (hr : meth.sig.returnType = (some .boolean)) (hlk : meth.locks = false) (N : Nat) (ρ : Int32 × Mz) (x1 : Int32) (x2 : Int32) (x3 : Int32) (μ : Mz) (h : b12_compare_105 N x1 x2 x3 μ = some ρ) : JM p l e s m args below meth c D θ A 7 5 (QMi below args s D θ A ρ) μ [(0, .ref θ.1), (1, .int x1), (2, .int x2), (3, .int x3)] [] 105 := by
  unfold b12_compare_105 at h
  refine j_aload_n K 0 d12_compare_105 rfl rfl ?_
  refine j_iload_n K 2 d12_compare_106 rfl rfl ?_
  obtain ⟨r5, μ5, e5, h⟩ := bd_e h
  refine mcall_i K (c12_makes_ok l D θ N x2 μ _ e5) mG_makes mh_makes (by decide) (by decide) rfl (st := []) (Nat.le_of_ble_eq_true rfl) rfl d12_compare_107 ?_
  refine j_if_ne (tgt := 115) K d12_compare_110 (by decide) (fun q => ?_) (fun q => ?_)
  · have h := if_f h q
    refine j_iload_n K 1 d12_compare_115 rfl rfl ?_
    refine j_bipush (v := 60) K d12_compare_116 (by decide) ?_
    refine j_icmp_ne (tgt := 133) K d12_compare_118 (by decide) (fun q => ?_) (fun q => ?_)
    · have h := if_f h q
      refine j_iload_n K 1 d12_compare_133 rfl rfl ?_
      refine j_bipush (v := 61) K d12_compare_134 (by decide) ?_
      refine j_icmp_ne (tgt := 143) K d12_compare_136 (by decide) (fun q => ?_) (fun q => ?_)
      · have h := if_f h q
        refine j_iload_n K 3 d12_compare_143 rfl rfl ?_
        refine j_if_eq (tgt := 151) K d12_compare_144 (by decide) (fun q => ?_) (fun q => ?_)
        · have h := if_t h q
          refine j_iconst (v := 4) K d12_compare_151 (by decide) ?_
          refine j_sub [0] rfl ?_
          exact t12_compare_152 K hr hlk N ρ 4 μ5 h
        · have h := if_f h q
          refine j_iconst (v := 3) K d12_compare_147 (by decide) ?_
          refine j_goto (tgt := 152) K d12_compare_148 (by decide) ?_
          refine j_sub [0] rfl ?_
          exact t12_compare_152 K hr hlk N ρ 3 μ5 h
      · have h := if_t h q
        refine j_iconst (v := 2) K d12_compare_139 (by decide) ?_
        refine j_goto (tgt := 152) K d12_compare_140 (by decide) ?_
        refine j_sub [0] rfl ?_
        exact t12_compare_152 K hr hlk N ρ 2 μ5 h
    · have h := if_t h q
      refine j_iload_n K 3 d12_compare_121 rfl rfl ?_
      refine j_if_eq (tgt := 129) K d12_compare_122 (by decide) (fun q => ?_) (fun q => ?_)
      · have h := if_t h q
        refine j_iconst (v := 0) K d12_compare_129 (by decide) ?_
        refine j_goto (tgt := 152) K d12_compare_130 (by decide) ?_
        refine j_sub [0] rfl ?_
        exact t12_compare_152 K hr hlk N ρ 0 μ5 h
      · have h := if_f h q
        refine j_iconst (v := 1) K d12_compare_125 (by decide) ?_
        refine j_goto (tgt := 152) K d12_compare_126 (by decide) ?_
        refine j_sub [0] rfl ?_
        exact t12_compare_152 K hr hlk N ρ 1 μ5 h
  · have h := if_t h q
    refine j_iconst (v := 0) K d12_compare_113 (by decide) ?_
    exact mret_z K h rfl hr hlk d12_compare_114
def b12_compare_90 (N : Nat) (x1 : Int32) (x2 : Int32) (t0 : Int32) (μ : Mz) : Option (Int32 × Mz) := if t0 = 0 then b12_compare_105 N x1 x2 t0 μ else lt (si 2 ((gi 2 μ) + 1) μ) (fun μ8 => b12_compare_105 N x1 x2 t0 μ8)
set_option maxHeartbeats 4000000 in
set_option maxRecDepth 100000 in
theorem t12_compare_90 {p : Program} {l : Launch} {e : Env} {s : State} {m : MethodId} {args : Array Value} {below : List Frame} {meth : Method} {c : Code} {D : va_G} {θ : Th} {A : Nat → Prop} (K : KM p s m args c c12_compare 5 y12_compare (some .boolean) D θ A) (hr : meth.sig.returnType = (some .boolean)) (hlk : meth.locks = false) (N : Nat) (ρ : Int32 × Mz) (x1 : Int32) (x2 : Int32) (t0 : Int32) (μ : Mz) (h : b12_compare_90 N x1 x2 t0 μ = some ρ) : JM p l e s m args below meth c D θ A 7 5 (QMi below args s D θ A ρ) μ [(0, .ref θ.1), (1, .int x1), (2, .int x2)] [.int t0] 90 := by
  unfold b12_compare_90 at h
  refine j_istore_n (lv' := [(3, .int t0), (0, .ref θ.1), (1, .int x1), (2, .int x2)]) K d12_compare_90 rfl (by decide) rfl ?_
  refine j_iload_n K 0 d12_compare_91 rfl rfl ?_
  refine j_if_eq (tgt := 105) K d12_compare_92 (by decide) (fun q => ?_) (fun q => ?_)
  · have h := if_t h q
    refine j_sub [1, 2, 3, 0] rfl ?_
    exact t12_compare_105 K hr hlk N ρ x1 x2 t0 μ h
  · have h := if_f h q
    refine j_aload_n K 1 d12_compare_95 rfl rfl ?_
    refine j_dup K d12_compare_96 rfl ?_
    refine mg_next K d12_compare_97 ?_
    refine j_iconst (v := 1) K d12_compare_100 (by decide) ?_
    refine j_iadd K d12_compare_101 ?_
    obtain ⟨μ8, e8, h⟩ := lt_e h
    refine mp_next K d12_compare_102 e8 ?_
    refine j_sub [1, 2, 3, 0] rfl ?_
    exact t12_compare_105 K hr hlk N ρ x1 x2 t0 μ8 h
def b12_compare_89 (N : Nat) (x1 : Int32) (x2 : Int32) (μ : Mz) : Option (Int32 × Mz) := b12_compare_90 N x1 x2 0 μ
set_option maxHeartbeats 4000000 in
set_option maxRecDepth 100000 in
theorem t12_compare_89 {p : Program} {l : Launch} {e : Env} {s : State} {m : MethodId} {args : Array Value} {below : List Frame} {meth : Method} {c : Code} {D : va_G} {θ : Th} {A : Nat → Prop} (K : KM p s m args c c12_compare 5 y12_compare (some .boolean) D θ A) (hr : meth.sig.returnType = (some .boolean)) (hlk : meth.locks = false) (N : Nat) (ρ : Int32 × Mz) (x1 : Int32) (x2 : Int32) (μ : Mz) (h : b12_compare_89 N x1 x2 μ = some ρ) : JM p l e s m args below meth c D θ A 7 5 (QMi below args s D θ A ρ) μ [(0, .ref θ.1), (1, .int x1), (2, .int x2)] [] 89 := by
  unfold b12_compare_89 at h
  refine j_iconst (v := 0) K d12_compare_89 (by decide) ?_
  exact t12_compare_90 K hr hlk N ρ x1 x2 0 μ h
def b12_compare_44 (N : Nat) (x1 : Int32) (x2 : Int32) (μ : Mz) : Option (Int32 × Mz) := lt (si 2 ((gi 2 μ) + 1) μ) (fun μ4 => if x1 = 61 then b12_compare_89 N x1 x2 μ4 else if (gi 0 μ4) ≤ (gi 2 μ4) then b12_compare_89 N x1 x2 μ4 else lt (gi 2 μ4) (fun v9 => ck (inb v9 400) (if (ga 0 μ4 v9.toNatClampNeg) = 61 then b12_compare_90 N x1 x2 1 μ4 else b12_compare_89 N x1 x2 μ4)))
set_option maxHeartbeats 4000000 in
set_option maxRecDepth 100000 in
theorem t12_compare_44 {p : Program} {l : Launch} {e : Env} {s : State} {m : MethodId} {args : Array Value} {below : List Frame} {meth : Method} {c : Code} {D : va_G} {θ : Th} {A : Nat → Prop} (K : KM p s m args c c12_compare 5 y12_compare (some .boolean) D θ A) (hr : meth.sig.returnType = (some .boolean)) (hlk : meth.locks = false) (N : Nat) (ρ : Int32 × Mz) (x1 : Int32) (x2 : Int32) (μ : Mz) (h : b12_compare_44 N x1 x2 μ = some ρ) : JM p l e s m args below meth c D θ A 7 5 (QMi below args s D θ A ρ) μ [(0, .ref θ.1), (1, .int x1), (2, .int x2)] [] 44 := by
  unfold b12_compare_44 at h
  refine j_aload_n K 0 d12_compare_44 rfl rfl ?_
  refine j_dup K d12_compare_45 rfl ?_
  refine mg_next K d12_compare_46 ?_
  refine j_iconst (v := 1) K d12_compare_49 (by decide) ?_
  refine j_iadd K d12_compare_50 ?_
  obtain ⟨μ4, e4, h⟩ := lt_e h
  refine mp_next K d12_compare_51 e4 ?_
  refine j_iload_n K 1 d12_compare_54 rfl rfl ?_
  refine j_bipush (v := 61) K d12_compare_55 (by decide) ?_
  refine j_icmp_eq (tgt := 89) K d12_compare_57 (by decide) (fun q => ?_) (fun q => ?_)
  · have h := if_t h q
    exact t12_compare_89 K hr hlk N ρ x1 x2 μ4 h
  · have h := if_f h q
    refine j_aload_n K 0 d12_compare_60 rfl rfl ?_
    refine mg_next K d12_compare_61 ?_
    refine j_aload_n K 0 d12_compare_64 rfl rfl ?_
    refine mg_taped K d12_compare_65 ?_
    refine j_icmp_ge (tgt := 89) K d12_compare_68 (by decide) (fun q => ?_) (fun q => ?_)
    · have h := if_t h q
      exact t12_compare_89 K hr hlk N ρ x1 x2 μ4 h
    · have h := if_f h q
      refine j_aload_n K 0 d12_compare_71 rfl rfl ?_
      refine mg_tape K d12_compare_72 ?_
      refine j_aload_n K 0 d12_compare_75 rfl rfl ?_
      refine mg_next K d12_compare_76 ?_
      obtain ⟨v9, e9, h⟩ := lt_e h
      refine j_eqi e9 ?_
      obtain ⟨q10, h⟩ := ck_e h
      refine ml_tape K (inb_e q10) d12_compare_79 ?_
      refine j_bipush (v := 61) K d12_compare_80 (by decide) ?_
      refine j_icmp_ne (tgt := 89) K d12_compare_82 (by decide) (fun q => ?_) (fun q => ?_)
      · have h := if_f h q
        exact t12_compare_89 K hr hlk N ρ x1 x2 μ4 h
      · have h := if_t h q
        refine j_iconst (v := 1) K d12_compare_85 (by decide) ?_
        refine j_goto (tgt := 90) K d12_compare_86 (by decide) ?_
        exact t12_compare_90 K hr hlk N ρ x1 x2 1 μ4 h
def p12_compare (N : Nat)  (μ : Mz) : Option (Int32 × Mz) := bd (p12_sum N  μ) (fun r1 μ1 => if r1 = 0 then some (0, μ1) else bd (p12_see N  μ1) (fun r2 μ2 => lt (gi 2 μ2) (fun v3 => if r2 = 60 then b12_compare_44 N r2 v3 μ2 else if r2 = 61 then b12_compare_44 N r2 v3 μ2 else if r2 = 62 then b12_compare_44 N r2 v3 μ2 else bd (p12_fails N 0 v3 μ2) (fun r11 μ11 => ck (b01 r11) (some (r11, μ11))))))
set_option maxHeartbeats 4000000 in
set_option maxRecDepth 100000 in
theorem c12_compare_ok (l : Launch) (D : va_G) (θ : Th) (N : Nat)  (μ : Mz) (ρ : Int32 × Mz) (h : p12_compare N  μ = some ρ) : CMi l D θ y12_compare c12_compare 5 (some .boolean) 7 [] μ ρ := by
  intro sz
  refine j_met l [.ref θ.1] (by decide +kernel) (Nat.le_of_ble_eq_true rfl) ?_
  intro p e s m args below meth c K hr hlk hnm hs
  generalize va_A (wM θ μ) sz = A at K ⊢
  have K : KM p s m args c c12_compare 5 y12_compare (some .boolean) D θ A := K
  show JM p l e s m args below meth c D θ A 7 5 (QMi below args s D θ A ρ) μ [(0, .ref θ.1)] [] 0
  unfold p12_compare at h
  refine j_aload_n K 0 d12_compare_0 rfl rfl ?_
  obtain ⟨r1, μ1, e1, h⟩ := bd_e h
  refine mcall_i K (c12_sum_ok l D θ N  μ _ e1) mG_sum mh_sum (by decide) (by decide) rfl (st := []) (Nat.le_of_ble_eq_true rfl) rfl d12_compare_1 ?_
  refine j_if_ne (tgt := 9) K d12_compare_4 (by decide) (fun q => ?_) (fun q => ?_)
  · have h := if_f h q
    refine j_aload_n K 0 d12_compare_9 rfl rfl ?_
    obtain ⟨r2, μ2, e2, h⟩ := bd_e h
    refine mcall_i K (c12_see_ok l D θ N  μ1 _ e2) mG_see mh_see (by decide) (by decide) rfl (st := []) (Nat.le_of_ble_eq_true rfl) rfl d12_compare_10 ?_
    refine j_istore_n (lv' := [(1, .int r2), (0, .ref θ.1)]) K d12_compare_13 rfl (by decide) rfl ?_
    refine j_aload_n K 1 d12_compare_14 rfl rfl ?_
    refine mg_next K d12_compare_15 ?_
    obtain ⟨v3, e3, h⟩ := lt_e h
    refine j_eqi e3 ?_
    refine j_istore_n (lv' := [(2, .int v3), (1, .int r2), (0, .ref θ.1)]) K d12_compare_18 rfl (by decide) rfl ?_
    refine j_iload_n K 1 d12_compare_19 rfl rfl ?_
    refine j_bipush (v := 60) K d12_compare_20 (by decide) ?_
    refine j_icmp_eq (tgt := 44) K d12_compare_22 (by decide) (fun q => ?_) (fun q => ?_)
    · have h := if_t h q
      refine j_sub [2, 1, 0] rfl ?_
      exact t12_compare_44 K hr hlk N ρ r2 v3 μ2 h
    · have h := if_f h q
      refine j_iload_n K 1 d12_compare_25 rfl rfl ?_
      refine j_bipush (v := 61) K d12_compare_26 (by decide) ?_
      refine j_icmp_eq (tgt := 44) K d12_compare_28 (by decide) (fun q => ?_) (fun q => ?_)
      · have h := if_t h q
        refine j_sub [2, 1, 0] rfl ?_
        exact t12_compare_44 K hr hlk N ρ r2 v3 μ2 h
      · have h := if_f h q
        refine j_iload_n K 1 d12_compare_31 rfl rfl ?_
        refine j_bipush (v := 62) K d12_compare_32 (by decide) ?_
        refine j_icmp_eq (tgt := 44) K d12_compare_34 (by decide) (fun q => ?_) (fun q => ?_)
        · have h := if_t h q
          refine j_sub [2, 1, 0] rfl ?_
          exact t12_compare_44 K hr hlk N ρ r2 v3 μ2 h
        · have h := if_f h q
          refine j_aload_n K 2 d12_compare_37 rfl rfl ?_
          refine j_iconst (v := 0) K d12_compare_38 (by decide) ?_
          refine j_iload_n K 0 d12_compare_39 rfl rfl ?_
          obtain ⟨r11, μ11, e11, h⟩ := bd_e h
          refine mcall_i K (c12_fails_ok l D θ N 0 v3 μ2 _ e11) mG_fails mh_fails (by decide) (by decide) rfl (st := []) (Nat.le_of_ble_eq_true rfl) rfl d12_compare_40 ?_
          obtain ⟨q12, h⟩ := ck_e h
          exact mret_z K h (b01_e q12) hr hlk d12_compare_43
  · have h := if_t h q
    refine j_iconst (v := 0) K d12_compare_7 (by decide) ?_
    exact mret_z K h rfl hr hlk d12_compare_8
def p12_passes (N : Nat)  (μ : Mz) : Option (Int32 × Mz) := bd (p12_choice N  μ) (fun r1 μ1 => bo (p12_prints N r1 μ1) (fun μ2 => some (r1, μ2)))
set_option maxHeartbeats 4000000 in
set_option maxRecDepth 100000 in
theorem c12_passes_ok (l : Launch) (D : va_G) (θ : Th) (N : Nat)  (μ : Mz) (ρ : Int32 × Mz) (h : p12_passes N  μ = some ρ) : CMi l D θ y12_passes c12_passes 2 (some .int) 7 [] μ ρ := by
  intro sz
  refine j_met l [.ref θ.1] (by decide +kernel) (Nat.le_of_ble_eq_true rfl) ?_
  intro p e s m args below meth c K hr hlk hnm hs
  generalize va_A (wM θ μ) sz = A at K ⊢
  have K : KM p s m args c c12_passes 2 y12_passes (some .int) D θ A := K
  show JM p l e s m args below meth c D θ A 7 2 (QMi below args s D θ A ρ) μ [(0, .ref θ.1)] [] 0
  unfold p12_passes at h
  refine j_aload_n K 0 d12_passes_0 rfl rfl ?_
  obtain ⟨r1, μ1, e1, h⟩ := bd_e h
  refine mcall_i K (c12_choice_ok l D θ N  μ _ e1) mG_choice mh_choice (by decide) (by decide) rfl (st := []) (Nat.le_of_ble_eq_true rfl) rfl d12_passes_1 ?_
  refine j_istore_n (lv' := [(1, .int r1), (0, .ref θ.1)]) K d12_passes_4 rfl (by decide) rfl ?_
  refine j_aload_n K 1 d12_passes_5 rfl rfl ?_
  refine j_iload_n K 0 d12_passes_6 rfl rfl ?_
  obtain ⟨μ2, e2, h⟩ := bo_e h
  refine mcall_v K (c12_prints_ok l D θ N r1 μ1 _ e2) mG_prints mh_prints (by decide) (by decide) rfl (st := []) (Nat.le_of_ble_eq_true rfl) rfl d12_passes_7 ?_
  refine j_iload_n K 0 d12_passes_10 rfl rfl ?_
  exact mret_i K h hr hlk d12_passes_11
def b12_findsRow_79 (N : Nat) (k26 : Int32 → Int32 → Mz → Option (Int32 × Mz)) (x1 : Int32) (x2 : Int32) (μ : Mz) : Option (Int32 × Mz) := bd (p12_nextRow N x1 μ) (fun r3 μ3 => if r3 = 0 then some (x2, μ3) else k26 x1 x2 μ3)
set_option maxHeartbeats 4000000 in
set_option maxRecDepth 100000 in
theorem t12_findsRow_79 {p : Program} {l : Launch} {e : Env} {s : State} {m : MethodId} {args : Array Value} {below : List Frame} {meth : Method} {c : Code} {D : va_G} {θ : Th} {A : Nat → Prop} (K : KM p s m args c c12_findsRow 5 y12_findsRow (some .int) D θ A) (hr : meth.sig.returnType = (some .int)) (hlk : meth.locks = false) (N : Nat) (ρ : Int32 × Mz) (k26 : Int32 → Int32 → Mz → Option (Int32 × Mz)) (hk26 : ∀ (x1 : Int32) (x2 : Int32) (μ : Mz), k26 x1 x2 μ = some ρ → JM p l e s m args below meth c D θ A 7 5 (QMi below args s D θ A ρ) μ [(0, .ref θ.1), (1, .int x1), (2, .int x2)] [] 26) (x1 : Int32) (x2 : Int32) (μ : Mz) (h : b12_findsRow_79 N k26 x1 x2 μ = some ρ) : JM p l e s m args below meth c D θ A 7 5 (QMi below args s D θ A ρ) μ [(0, .ref θ.1), (1, .int x1), (2, .int x2)] [] 79 := by
  unfold b12_findsRow_79 at h
  refine j_aload_n K 0 d12_findsRow_79 rfl rfl ?_
  refine j_iload_n K 1 d12_findsRow_80 rfl rfl ?_
  obtain ⟨r3, μ3, e3, h⟩ := bd_e h
  refine mcall_i K (c12_nextRow_ok l D θ N x1 μ _ e3) mG_nextRow mh_nextRow (by decide) (by decide) rfl (st := []) (Nat.le_of_ble_eq_true rfl) rfl d12_findsRow_81 ?_
  refine j_if_ne (tgt := 26) K d12_findsRow_84 (by decide) (fun q => ?_) (fun q => ?_)
  · have h := if_f h q
    exact hk26 x1 x2 μ3 h
  · have h := if_t h q
    refine j_iload_n K 2 d12_findsRow_87 rfl rfl ?_
    exact mret_i K h hr hlk d12_findsRow_88
def b12_findsRow_53 (N : Nat) (k26 : Int32 → Int32 → Mz → Option (Int32 × Mz)) : Nat → Int32 → Int32 → Int32 → Mz → Option (Int32 × Mz)
  | 0, _, _, _, _ => none
  | n + 1, x1, x2, x4, μ => if 4 ≤ x4 then b12_findsRow_79 N k26 x1 x2 μ else ck (inb x4 4) (lt (ga 10 μ x4.toNatClampNeg) (fun v5 => ck (inb x4 4) (lt (sa 11 (upd (ga 11 μ) x4.toNatClampNeg v5) μ) (fun μ7 => lt (x4 + 1) (fun v8 => b12_findsRow_53 N k26 n x1 x2 v8 μ7)))))
set_option maxHeartbeats 4000000 in
set_option maxRecDepth 100000 in
theorem t12_findsRow_53 {p : Program} {l : Launch} {e : Env} {s : State} {m : MethodId} {args : Array Value} {below : List Frame} {meth : Method} {c : Code} {D : va_G} {θ : Th} {A : Nat → Prop} (K : KM p s m args c c12_findsRow 5 y12_findsRow (some .int) D θ A) (hr : meth.sig.returnType = (some .int)) (hlk : meth.locks = false) (N : Nat) (ρ : Int32 × Mz) (k26 : Int32 → Int32 → Mz → Option (Int32 × Mz)) (hk26 : ∀ (x1 : Int32) (x2 : Int32) (μ : Mz), k26 x1 x2 μ = some ρ → JM p l e s m args below meth c D θ A 7 5 (QMi below args s D θ A ρ) μ [(0, .ref θ.1), (1, .int x1), (2, .int x2)] [] 26) : ∀ (n : Nat) (x1 : Int32) (x2 : Int32) (x4 : Int32) (μ : Mz), b12_findsRow_53 N k26 n x1 x2 x4 μ = some ρ → JM p l e s m args below meth c D θ A 7 5 (QMi below args s D θ A ρ) μ [(0, .ref θ.1), (1, .int x1), (2, .int x2), (4, .int x4)] [] 53 := by
  intro n
  induction n with
  | zero =>
    intro x1 x2 x4 μ h
    exact absurd h (by simp [b12_findsRow_53])
  | succ n ih =>
    intro x1 x2 x4 μ h
    rw [b12_findsRow_53] at h
    refine j_iload K 3 d12_findsRow_53 rfl ?_
    refine j_iconst (v := 4) K d12_findsRow_55 (by decide) ?_
    refine j_icmp_ge (tgt := 79) K d12_findsRow_56 (by decide) (fun q => ?_) (fun q => ?_)
    · have h := if_t h q
      refine j_sub [0, 1, 2] rfl ?_
      exact t12_findsRow_79 K hr hlk N ρ k26 hk26 x1 x2 μ h
    · have h := if_f h q
      refine j_aload_n K 0 d12_findsRow_59 rfl rfl ?_
      refine mg_rowBest K d12_findsRow_60 ?_
      refine j_iload K 3 d12_findsRow_63 rfl ?_
      refine j_aload_n K 0 d12_findsRow_65 rfl rfl ?_
      refine mg_rowNow K d12_findsRow_66 ?_
      refine j_iload K 3 d12_findsRow_69 rfl ?_
      obtain ⟨q4, h⟩ := ck_e h
      refine ml_rowNow K (inb_e q4) d12_findsRow_71 ?_
      obtain ⟨v5, e5, h⟩ := lt_e h
      refine j_eqi e5 ?_
      obtain ⟨q6, h⟩ := ck_e h
      obtain ⟨μ7, e7, h⟩ := lt_e h
      refine ms_rowBest K (inb_e q6) d12_findsRow_72 e7 ?_
      obtain ⟨v8, e8, h⟩ := lt_e h
      refine j_iinc (k := 3) (v := v8) (lv' := [(4, .int v8), (0, .ref θ.1), (1, .int x1), (2, .int x2)]) K d12_findsRow_73 rfl (by rw [e8]; rfl) (by decide) rfl ?_
      refine j_goto (tgt := 53) K d12_findsRow_76 (by decide) ?_
      refine j_sub [1, 2, 3, 0] rfl ?_
      exact ih x1 x2 v8 μ7 h
def b12_findsRow_26 (N : Nat) : Nat → Int32 → Int32 → Mz → Option (Int32 × Mz)
  | 0, _, _, _ => none
  | n + 1, x1, x2, μ => bd (p12_wrongByRow N x1 μ) (fun r2 μ2 => if r2 < 0 then b12_findsRow_79 N (b12_findsRow_26 N n) x1 x2 μ2 else if x2 < 0 then b12_findsRow_53 N (b12_findsRow_26 N n) N x1 r2 0 μ2 else if r2 < x2 then b12_findsRow_53 N (b12_findsRow_26 N n) N x1 r2 0 μ2 else b12_findsRow_79 N (b12_findsRow_26 N n) x1 x2 μ2)
set_option maxHeartbeats 4000000 in
set_option maxRecDepth 100000 in
theorem t12_findsRow_26 {p : Program} {l : Launch} {e : Env} {s : State} {m : MethodId} {args : Array Value} {below : List Frame} {meth : Method} {c : Code} {D : va_G} {θ : Th} {A : Nat → Prop} (K : KM p s m args c c12_findsRow 5 y12_findsRow (some .int) D θ A) (hr : meth.sig.returnType = (some .int)) (hlk : meth.locks = false) (N : Nat) (ρ : Int32 × Mz) : ∀ (n : Nat) (x1 : Int32) (x2 : Int32) (μ : Mz), b12_findsRow_26 N n x1 x2 μ = some ρ → JM p l e s m args below meth c D θ A 7 5 (QMi below args s D θ A ρ) μ [(0, .ref θ.1), (1, .int x1), (2, .int x2)] [] 26 := by
  intro n
  induction n with
  | zero =>
    intro x1 x2 μ h
    exact absurd h (by simp [b12_findsRow_26])
  | succ n ih =>
    intro x1 x2 μ h
    rw [b12_findsRow_26] at h
    refine j_aload_n K 0 d12_findsRow_26 rfl rfl ?_
    refine j_iload_n K 1 d12_findsRow_27 rfl rfl ?_
    obtain ⟨r2, μ2, e2, h⟩ := bd_e h
    refine mcall_i K (c12_wrongByRow_ok l D θ N x1 μ _ e2) mG_wrongByRow mh_wrongByRow (by decide) (by decide) rfl (st := []) (Nat.le_of_ble_eq_true rfl) rfl d12_findsRow_28 ?_
    refine j_istore_n (lv' := [(3, .int r2), (0, .ref θ.1), (1, .int x1), (2, .int x2)]) K d12_findsRow_31 rfl (by decide) rfl ?_
    refine j_iload_n K 0 d12_findsRow_32 rfl rfl ?_
    refine j_if_lt (tgt := 79) K d12_findsRow_33 (by decide) (fun q => ?_) (fun q => ?_)
    · have h := if_t h q
      refine j_sub [1, 2, 3] rfl ?_
      exact t12_findsRow_79 K hr hlk N ρ (b12_findsRow_26 N n) ih x1 x2 μ2 h
    · have h := if_f h q
      refine j_iload_n K 3 d12_findsRow_36 rfl rfl ?_
      refine j_if_lt (tgt := 48) K d12_findsRow_37 (by decide) (fun q => ?_) (fun q => ?_)
      · have h := if_t h q
        refine j_iload_n K 0 d12_findsRow_48 rfl rfl ?_
        refine j_istore_n (lv' := [(2, .int r2), (3, .int r2), (0, .ref θ.1), (1, .int x1)]) K d12_findsRow_49 rfl (by decide) rfl ?_
        refine j_iconst (v := 0) K d12_findsRow_50 (by decide) ?_
        refine j_istore (lv' := [(4, .int 0), (2, .int r2), (3, .int r2), (0, .ref θ.1), (1, .int x1)]) K d12_findsRow_51 (by decide) rfl ?_
        refine j_sub [3, 4, 1, 0] rfl ?_
        exact t12_findsRow_53 K hr hlk N ρ (b12_findsRow_26 N n) ih N x1 r2 0 μ2 h
      · have h := if_f h q
        refine j_iload_n K 0 d12_findsRow_40 rfl rfl ?_
        refine j_iload_n K 3 d12_findsRow_41 rfl rfl ?_
        refine j_icmp_lt (tgt := 48) K d12_findsRow_42 (by decide) (fun q => ?_) (fun q => ?_)
        · have h := if_t h q
          refine j_iload_n K 0 d12_findsRow_48 rfl rfl ?_
          refine j_istore_n (lv' := [(2, .int r2), (3, .int r2), (0, .ref θ.1), (1, .int x1)]) K d12_findsRow_49 rfl (by decide) rfl ?_
          refine j_iconst (v := 0) K d12_findsRow_50 (by decide) ?_
          refine j_istore (lv' := [(4, .int 0), (2, .int r2), (3, .int r2), (0, .ref θ.1), (1, .int x1)]) K d12_findsRow_51 (by decide) rfl ?_
          refine j_sub [3, 4, 1, 0] rfl ?_
          exact t12_findsRow_53 K hr hlk N ρ (b12_findsRow_26 N n) ih N x1 r2 0 μ2 h
        · have h := if_f h q
          refine j_goto (tgt := 79) K d12_findsRow_45 (by decide) ?_
          refine j_sub [1, 2, 3] rfl ?_
          exact t12_findsRow_79 K hr hlk N ρ (b12_findsRow_26 N n) ih x1 x2 μ2 h
def b12_findsRow_8 (N : Nat) : Nat → Int32 → Int32 → Int32 → Mz → Option (Int32 × Mz)
  | 0, _, _, _, _ => none
  | n + 1, x1, x2, x3, μ => if 4 ≤ x3 then b12_findsRow_26 N N x1 x2 μ else ck (inb x3 4) (lt (sa 10 (upd (ga 10 μ) x3.toNatClampNeg (-1)) μ) (fun μ10 => lt (x3 + 1) (fun v11 => b12_findsRow_8 N n x1 x2 v11 μ10)))
set_option maxHeartbeats 4000000 in
set_option maxRecDepth 100000 in
theorem t12_findsRow_8 {p : Program} {l : Launch} {e : Env} {s : State} {m : MethodId} {args : Array Value} {below : List Frame} {meth : Method} {c : Code} {D : va_G} {θ : Th} {A : Nat → Prop} (K : KM p s m args c c12_findsRow 5 y12_findsRow (some .int) D θ A) (hr : meth.sig.returnType = (some .int)) (hlk : meth.locks = false) (N : Nat) (ρ : Int32 × Mz) : ∀ (n : Nat) (x1 : Int32) (x2 : Int32) (x3 : Int32) (μ : Mz), b12_findsRow_8 N n x1 x2 x3 μ = some ρ → JM p l e s m args below meth c D θ A 7 5 (QMi below args s D θ A ρ) μ [(0, .ref θ.1), (1, .int x1), (2, .int x2), (3, .int x3)] [] 8 := by
  intro n
  induction n with
  | zero =>
    intro x1 x2 x3 μ h
    exact absurd h (by simp [b12_findsRow_8])
  | succ n ih =>
    intro x1 x2 x3 μ h
    rw [b12_findsRow_8] at h
    refine j_iload_n K 3 d12_findsRow_8 rfl rfl ?_
    refine j_iconst (v := 4) K d12_findsRow_9 (by decide) ?_
    refine j_icmp_ge (tgt := 26) K d12_findsRow_10 (by decide) (fun q => ?_) (fun q => ?_)
    · have h := if_t h q
      refine j_sub [0, 1, 2] rfl ?_
      exact t12_findsRow_26 K hr hlk N ρ N x1 x2 μ h
    · have h := if_f h q
      refine j_aload_n K 0 d12_findsRow_13 rfl rfl ?_
      refine mg_rowNow K d12_findsRow_14 ?_
      refine j_iload_n K 3 d12_findsRow_17 rfl rfl ?_
      refine j_iconst (v := (-1)) K d12_findsRow_18 (by decide) ?_
      obtain ⟨q9, h⟩ := ck_e h
      obtain ⟨μ10, e10, h⟩ := lt_e h
      refine ms_rowNow K (inb_e q9) d12_findsRow_19 e10 ?_
      obtain ⟨v11, e11, h⟩ := lt_e h
      refine j_iinc (k := 3) (v := v11) (lv' := [(3, .int v11), (0, .ref θ.1), (1, .int x1), (2, .int x2)]) K d12_findsRow_20 rfl (by rw [e11]; rfl) (by decide) rfl ?_
      refine j_goto (tgt := 8) K d12_findsRow_23 (by decide) ?_
      refine j_sub [1, 2, 3, 0] rfl ?_
      exact ih x1 x2 v11 μ10 h
def p12_findsRow (N : Nat) (a1 : Int32) (μ : Mz) : Option (Int32 × Mz) := bo (p12_keeps N  μ) (fun μ1 => b12_findsRow_8 N N a1 (-1) 0 μ1)
set_option maxHeartbeats 4000000 in
set_option maxRecDepth 100000 in
theorem c12_findsRow_ok (l : Launch) (D : va_G) (θ : Th) (N : Nat) (a1 : Int32) (μ : Mz) (ρ : Int32 × Mz) (h : p12_findsRow N a1 μ = some ρ) : CMi l D θ y12_findsRow c12_findsRow 5 (some .int) 7 [.int a1] μ ρ := by
  intro sz
  refine j_met l [.ref θ.1, .int a1] (by decide +kernel) (Nat.le_of_ble_eq_true rfl) ?_
  intro p e s m args below meth c K hr hlk hnm hs
  generalize va_A (wM θ μ) sz = A at K ⊢
  have K : KM p s m args c c12_findsRow 5 y12_findsRow (some .int) D θ A := K
  show JM p l e s m args below meth c D θ A 7 5 (QMi below args s D θ A ρ) μ [(0, .ref θ.1), (1, .int a1)] [] 0
  unfold p12_findsRow at h
  refine j_iconst (v := (-1)) K d12_findsRow_0 (by decide) ?_
  refine j_istore_n (lv' := [(2, .int (-1)), (0, .ref θ.1), (1, .int a1)]) K d12_findsRow_1 rfl (by decide) rfl ?_
  refine j_aload_n K 1 d12_findsRow_2 rfl rfl ?_
  obtain ⟨μ1, e1, h⟩ := bo_e h
  refine mcall_v K (c12_keeps_ok l D θ N  μ _ e1) mG_keeps mh_keeps (by decide) (by decide) rfl (st := []) (Nat.le_of_ble_eq_true rfl) rfl d12_findsRow_3 ?_
  refine j_iconst (v := 0) K d12_findsRow_6 (by decide) ?_
  refine j_istore_n (lv' := [(3, .int 0), (2, .int (-1)), (0, .ref θ.1), (1, .int a1)]) K d12_findsRow_7 rfl (by decide) rfl ?_
  refine j_sub [2, 3, 1, 0] rfl ?_
  exact t12_findsRow_8 K hr hlk N ρ N a1 (-1) 0 μ1 h
def b12_fact_2 (N : Nat) : Nat → Int32 → Mz → Option (Int32 × Mz)
  | 0, _, _ => none
  | n + 1, x1, μ => if x1 = 0 then bd (p12_compare N  μ) (fun r1 μ1 => ck (b01 r1) (some (r1, μ1))) else bd (p12_see N  μ) (fun r3 μ3 => bd (p12_isWord N 7237492 μ3) (fun r4 μ4 => if r4 = 0 then if r3 = 91 then bd (p12_opens N 91 μ4) (fun r5 μ5 => if r5 = 0 then some (0, μ5) else lt (si 2 ((gi 2 μ5) + 1) μ5) (fun μ6 => b12_fact_2 N n 1 μ6)) else b12_fact_2 N n 0 μ4 else bd (p12_opens N 11 μ4) (fun r7 μ7 => if r7 = 0 then some (0, μ7) else bo (p12_passWord N  μ7) (fun μ8 => b12_fact_2 N n 1 μ8))))
set_option maxHeartbeats 4000000 in
set_option maxRecDepth 100000 in
theorem t12_fact_2 {p : Program} {l : Launch} {e : Env} {s : State} {m : MethodId} {args : Array Value} {below : List Frame} {meth : Method} {c : Code} {D : va_G} {θ : Th} {A : Nat → Prop} (K : KM p s m args c c12_fact 3 y12_fact (some .boolean) D θ A) (hr : meth.sig.returnType = (some .boolean)) (hlk : meth.locks = false) (N : Nat) (ρ : Int32 × Mz) : ∀ (n : Nat) (x1 : Int32) (μ : Mz), b12_fact_2 N n x1 μ = some ρ → JM p l e s m args below meth c D θ A 8 3 (QMi below args s D θ A ρ) μ [(0, .ref θ.1), (1, .int x1)] [] 2 := by
  intro n
  induction n with
  | zero =>
    intro x1 μ h
    exact absurd h (by simp [b12_fact_2])
  | succ n ih =>
    intro x1 μ h
    rw [b12_fact_2] at h
    refine j_iload_n K 1 d12_fact_2 rfl rfl ?_
    refine j_if_eq (tgt := 75) K d12_fact_3 (by decide) (fun q => ?_) (fun q => ?_)
    · have h := if_t h q
      refine j_aload_n K 0 d12_fact_75 rfl rfl ?_
      obtain ⟨r1, μ1, e1, h⟩ := bd_e h
      refine mcall_i K (c12_compare_ok l D θ N  μ _ e1) mG_compare mh_compare (by decide) (by decide) rfl (st := []) (Nat.le_of_ble_eq_true rfl) rfl d12_fact_76 ?_
      obtain ⟨q2, h⟩ := ck_e h
      exact mret_z K h (b01_e q2) hr hlk d12_fact_79
    · have h := if_f h q
      refine j_iconst (v := 0) K d12_fact_6 (by decide) ?_
      refine j_istore_n (lv' := [(1, .int 0), (0, .ref θ.1)]) K d12_fact_7 rfl (by decide) rfl ?_
      refine j_aload_n K 1 d12_fact_8 rfl rfl ?_
      obtain ⟨r3, μ3, e3, h⟩ := bd_e h
      refine mcall_i K (c12_see_ok l D θ N  μ _ e3) mG_see mh_see (by decide) (by decide) rfl (st := []) (Nat.le_of_ble_eq_true rfl) rfl d12_fact_9 ?_
      refine j_istore_n (lv' := [(2, .int r3), (1, .int 0), (0, .ref θ.1)]) K d12_fact_12 rfl (by decide) rfl ?_
      refine j_aload_n K 2 d12_fact_13 rfl rfl ?_
      refine j_ldc2 (v := 7237492) K (List.mem_cons_of_mem _ mk12_195) d12_fact_14 ?_
      obtain ⟨r4, μ4, e4, h⟩ := bd_e h
      refine mcall_i K (c12_isWord_ok l D θ N 7237492 μ3 _ e4) mG_isWord mh_isWord (by decide) (by decide) rfl (st := []) (Nat.le_of_ble_eq_true rfl) rfl d12_fact_17 ?_
      refine j_if_eq (tgt := 43) K d12_fact_20 (by decide) (fun q => ?_) (fun q => ?_)
      · have h := if_t h q
        refine j_iload_n K 0 d12_fact_43 rfl rfl ?_
        refine j_bipush (v := 91) K d12_fact_44 (by decide) ?_
        refine j_icmp_ne (tgt := 72) K d12_fact_46 (by decide) (fun q => ?_) (fun q => ?_)
        · have h := if_f h q
          refine j_goto (tgt := 2) K d12_fact_72 (by decide) ?_
          refine j_sub [2, 1] rfl ?_
          exact ih 0 μ4 h
        · have h := if_t h q
          refine j_aload_n K 2 d12_fact_49 rfl rfl ?_
          refine j_bipush (v := 91) K d12_fact_50 (by decide) ?_
          obtain ⟨r5, μ5, e5, h⟩ := bd_e h
          refine mcall_i K (c12_opens_ok l D θ N 91 μ4 _ e5) mG_opens mh_opens (by decide) (by decide) rfl (st := []) (Nat.le_of_ble_eq_true rfl) rfl d12_fact_52 ?_
          refine j_if_ne (tgt := 60) K d12_fact_55 (by decide) (fun q => ?_) (fun q => ?_)
          · have h := if_f h q
            refine j_aload_n K 2 d12_fact_60 rfl rfl ?_
            refine j_dup K d12_fact_61 rfl ?_
            refine mg_next K d12_fact_62 ?_
            refine j_iconst (v := 1) K d12_fact_65 (by decide) ?_
            refine j_iadd K d12_fact_66 ?_
            obtain ⟨μ6, e6, h⟩ := lt_e h
            refine mp_next K d12_fact_67 e6 ?_
            refine j_iconst (v := 1) K d12_fact_70 (by decide) ?_
            refine j_istore_n (lv' := [(1, .int 1), (2, .int r3), (0, .ref θ.1)]) K d12_fact_71 rfl (by decide) rfl ?_
            refine j_goto (tgt := 2) K d12_fact_72 (by decide) ?_
            refine j_sub [2, 0] rfl ?_
            exact ih 1 μ6 h
          · have h := if_t h q
            refine j_iconst (v := 0) K d12_fact_58 (by decide) ?_
            exact mret_z K h rfl hr hlk d12_fact_59
      · have h := if_f h q
        refine j_aload_n K 2 d12_fact_23 rfl rfl ?_
        refine j_bipush (v := 11) K d12_fact_24 (by decide) ?_
        obtain ⟨r7, μ7, e7, h⟩ := bd_e h
        refine mcall_i K (c12_opens_ok l D θ N 11 μ4 _ e7) mG_opens mh_opens (by decide) (by decide) rfl (st := []) (Nat.le_of_ble_eq_true rfl) rfl d12_fact_26 ?_
        refine j_if_ne (tgt := 34) K d12_fact_29 (by decide) (fun q => ?_) (fun q => ?_)
        · have h := if_f h q
          refine j_aload_n K 2 d12_fact_34 rfl rfl ?_
          obtain ⟨μ8, e8, h⟩ := bo_e h
          refine mcall_v K (c12_passWord_ok l D θ N  μ7 _ e8) mG_passWord mh_passWord (by decide) (by decide) rfl (st := []) (Nat.le_of_ble_eq_true rfl) rfl d12_fact_35 ?_
          refine j_iconst (v := 1) K d12_fact_38 (by decide) ?_
          refine j_istore_n (lv' := [(1, .int 1), (2, .int r3), (0, .ref θ.1)]) K d12_fact_39 rfl (by decide) rfl ?_
          refine j_goto (tgt := 72) K d12_fact_40 (by decide) ?_
          refine j_goto (tgt := 2) K d12_fact_72 (by decide) ?_
          refine j_sub [2, 0] rfl ?_
          exact ih 1 μ8 h
        · have h := if_t h q
          refine j_iconst (v := 0) K d12_fact_32 (by decide) ?_
          exact mret_z K h rfl hr hlk d12_fact_33
def p12_fact (N : Nat)  (μ : Mz) : Option (Int32 × Mz) := b12_fact_2 N N 1 μ
set_option maxHeartbeats 4000000 in
set_option maxRecDepth 100000 in
theorem c12_fact_ok (l : Launch) (D : va_G) (θ : Th) (N : Nat)  (μ : Mz) (ρ : Int32 × Mz) (h : p12_fact N  μ = some ρ) : CMi l D θ y12_fact c12_fact 3 (some .boolean) 8 [] μ ρ := by
  intro sz
  refine j_met l [.ref θ.1] (by decide +kernel) (Nat.le_of_ble_eq_true rfl) ?_
  intro p e s m args below meth c K hr hlk hnm hs
  generalize va_A (wM θ μ) sz = A at K ⊢
  have K : KM p s m args c c12_fact 3 y12_fact (some .boolean) D θ A := K
  show JM p l e s m args below meth c D θ A 8 3 (QMi below args s D θ A ρ) μ [(0, .ref θ.1)] [] 0
  unfold p12_fact at h
  refine j_iconst (v := 1) K d12_fact_0 (by decide) ?_
  refine j_istore_n (lv' := [(1, .int 1), (0, .ref θ.1)]) K d12_fact_1 rfl (by decide) rfl ?_
  refine j_sub [1, 0] rfl ?_
  exact t12_fact_2 K hr hlk N ρ N 1 μ h
def b12_passesAll_2 (N : Nat) : Nat → Int32 → Int32 → Mz → Option (Mz)
  | 0, _, _, _ => none
  | n + 1, x1, x2, μ => if x1 ≤ x2 then some μ else bd (p12_passes N  μ) (fun r1 μ1 => lt (x2 + 1) (fun v2 => b12_passesAll_2 N n x1 v2 μ1))
set_option maxHeartbeats 4000000 in
set_option maxRecDepth 100000 in
theorem t12_passesAll_2 {p : Program} {l : Launch} {e : Env} {s : State} {m : MethodId} {args : Array Value} {below : List Frame} {meth : Method} {c : Code} {D : va_G} {θ : Th} {A : Nat → Prop} (K : KM p s m args c c12_passesAll 3 y12_passesAll none D θ A) (hr : meth.sig.returnType = none) (hlk : meth.locks = false) (N : Nat) (ρ : Mz) : ∀ (n : Nat) (x1 : Int32) (x2 : Int32) (μ : Mz), b12_passesAll_2 N n x1 x2 μ = some ρ → JM p l e s m args below meth c D θ A 8 3 (QMv below args s D θ A ρ) μ [(0, .ref θ.1), (1, .int x1), (2, .int x2)] [] 2 := by
  intro n
  induction n with
  | zero =>
    intro x1 x2 μ h
    exact absurd h (by simp [b12_passesAll_2])
  | succ n ih =>
    intro x1 x2 μ h
    rw [b12_passesAll_2] at h
    refine j_iload_n K 2 d12_passesAll_2 rfl rfl ?_
    refine j_iload_n K 1 d12_passesAll_3 rfl rfl ?_
    refine j_icmp_ge (tgt := 18) K d12_passesAll_4 (by decide) (fun q => ?_) (fun q => ?_)
    · have h := if_t h q
      exact mret_v K h hr hlk d12_passesAll_18
    · have h := if_f h q
      refine j_aload_n K 0 d12_passesAll_7 rfl rfl ?_
      obtain ⟨r1, μ1, e1, h⟩ := bd_e h
      refine mcall_i K (c12_passes_ok l D θ N  μ _ e1) mG_passes mh_passes (by decide) (by decide) rfl (st := []) (Nat.le_of_ble_eq_true rfl) rfl d12_passesAll_8 ?_
      refine j_pop K d12_passesAll_11 rfl ?_
      obtain ⟨v2, e2, h⟩ := lt_e h
      refine j_iinc (k := 2) (v := v2) (lv' := [(2, .int v2), (0, .ref θ.1), (1, .int x1)]) K d12_passesAll_12 rfl (by rw [e2]; rfl) (by decide) rfl ?_
      refine j_goto (tgt := 2) K d12_passesAll_15 (by decide) ?_
      refine j_sub [1, 2, 0] rfl ?_
      exact ih x1 v2 μ1 h
def p12_passesAll (N : Nat) (a1 : Int32) (μ : Mz) : Option (Mz) := b12_passesAll_2 N N a1 0 μ
set_option maxHeartbeats 4000000 in
set_option maxRecDepth 100000 in
theorem c12_passesAll_ok (l : Launch) (D : va_G) (θ : Th) (N : Nat) (a1 : Int32) (μ : Mz) (ρ : Mz) (h : p12_passesAll N a1 μ = some ρ) : CMv l D θ y12_passesAll c12_passesAll 3 none 8 [.int a1] μ ρ := by
  intro sz
  refine j_met l [.ref θ.1, .int a1] (by decide +kernel) (Nat.le_of_ble_eq_true rfl) ?_
  intro p e s m args below meth c K hr hlk hnm hs
  generalize va_A (wM θ μ) sz = A at K ⊢
  have K : KM p s m args c c12_passesAll 3 y12_passesAll none D θ A := K
  show JM p l e s m args below meth c D θ A 8 3 (QMv below args s D θ A ρ) μ [(0, .ref θ.1), (1, .int a1)] [] 0
  unfold p12_passesAll at h
  refine j_iconst (v := 0) K d12_passesAll_0 (by decide) ?_
  refine j_istore_n (lv' := [(2, .int 0), (0, .ref θ.1), (1, .int a1)]) K d12_passesAll_1 rfl (by decide) rfl ?_
  refine j_sub [1, 2, 0] rfl ?_
  exact t12_passesAll_2 K hr hlk N ρ N a1 0 μ h
def p12_edition (N : Nat)  (μ : Mz) : Option (Int32 × Mz) := bd (p12_isBook N  μ) (fun r1 μ1 => if r1 = 0 then some ((-1), μ1) else if (ga 7 μ1 (10 : Int32).toNatClampNeg) = 999 then some ((-1), μ1) else bo (p12_keepsAct N  μ1) (fun μ2 => bd (p12_passes N  μ2) (fun r3 μ3 => if 0 ≤ r3 then some (r3, μ3) else some ((-2), μ3))))
set_option maxHeartbeats 4000000 in
set_option maxRecDepth 100000 in
theorem c12_edition_ok (l : Launch) (D : va_G) (θ : Th) (N : Nat)  (μ : Mz) (ρ : Int32 × Mz) (h : p12_edition N  μ = some ρ) : CMi l D θ y12_edition c12_edition 2 (some .int) 8 [] μ ρ := by
  intro sz
  refine j_met l [.ref θ.1] (by decide +kernel) (Nat.le_of_ble_eq_true rfl) ?_
  intro p e s m args below meth c K hr hlk hnm hs
  generalize va_A (wM θ μ) sz = A at K ⊢
  have K : KM p s m args c c12_edition 2 y12_edition (some .int) D θ A := K
  show JM p l e s m args below meth c D θ A 8 2 (QMi below args s D θ A ρ) μ [(0, .ref θ.1)] [] 0
  unfold p12_edition at h
  refine j_aload_n K 0 d12_edition_0 rfl rfl ?_
  obtain ⟨r1, μ1, e1, h⟩ := bd_e h
  refine mcall_i K (c12_isBook_ok l D θ N  μ _ e1) mG_isBook mh_isBook (by decide) (by decide) rfl (st := []) (Nat.le_of_ble_eq_true rfl) rfl d12_edition_1 ?_
  refine j_if_eq (tgt := 20) K d12_edition_4 (by decide) (fun q => ?_) (fun q => ?_)
  · have h := if_t h q
    refine j_iconst (v := (-1)) K d12_edition_20 (by decide) ?_
    exact mret_i K h hr hlk d12_edition_21
  · have h := if_f h q
    refine j_aload_n K 0 d12_edition_7 rfl rfl ?_
    refine mg_said K d12_edition_8 ?_
    refine j_bipush (v := 10) K d12_edition_11 (by decide) ?_
    refine ml_said K (inb_e (by decide)) d12_edition_13 ?_
    refine j_sipush (v := 999) K d12_edition_14 (by decide) ?_
    refine j_icmp_ne (tgt := 22) K d12_edition_17 (by decide) (fun q => ?_) (fun q => ?_)
    · have h := if_f h q
      refine j_aload_n K 0 d12_edition_22 rfl rfl ?_
      obtain ⟨μ2, e2, h⟩ := bo_e h
      refine mcall_v K (c12_keepsAct_ok l D θ N  μ1 _ e2) mG_keepsAct mh_keepsAct (by decide) (by decide) rfl (st := []) (Nat.le_of_ble_eq_true rfl) rfl d12_edition_23 ?_
      refine j_aload_n K 0 d12_edition_26 rfl rfl ?_
      obtain ⟨r3, μ3, e3, h⟩ := bd_e h
      refine mcall_i K (c12_passes_ok l D θ N  μ2 _ e3) mG_passes mh_passes (by decide) (by decide) rfl (st := []) (Nat.le_of_ble_eq_true rfl) rfl d12_edition_27 ?_
      refine j_istore_n (lv' := [(1, .int r3), (0, .ref θ.1)]) K d12_edition_30 rfl (by decide) rfl ?_
      refine j_iload_n K 0 d12_edition_31 rfl rfl ?_
      refine j_if_ge (tgt := 40) K d12_edition_32 (by decide) (fun q => ?_) (fun q => ?_)
      · have h := if_t h q
        refine j_iload_n K 0 d12_edition_40 rfl rfl ?_
        exact mret_i K h hr hlk d12_edition_41
      · have h := if_f h q
        refine j_bipush (v := (-2)) K d12_edition_35 (by decide) ?_
        refine j_goto (tgt := 41) K d12_edition_37 (by decide) ?_
        exact mret_i K h hr hlk d12_edition_41
    · have h := if_t h q
      refine j_iconst (v := (-1)) K d12_edition_20 (by decide) ?_
      exact mret_i K h hr hlk d12_edition_21
def b12_rightIn_9 (N : Nat) : Nat → Int32 → Int32 → Int32 → Mz → Option (Int32 × Mz)
  | 0, _, _, _, _ => none
  | n + 1, x1, x2, x3, μ => if 200 ≤ x3 then bo (p12_laysBack N  μ) (fun μ2 => some (x2, μ2)) else if 0 ≤ x2 then bo (p12_laysBack N  μ) (fun μ3 => some (x2, μ3)) else bd (p12_passes N  μ) (fun r4 μ4 => bd (p12_wrongOnes N  μ4) (fun r5 μ5 => if (r5 &&& x1) = 0 then lt ((ga 7 μ5 (10 : Int32).toNatClampNeg) - 1) (fun v7 => lt (x3 + 1) (fun v8 => b12_rightIn_9 N n x1 v7 v8 μ5)) else lt (x3 + 1) (fun v6 => b12_rightIn_9 N n x1 x2 v6 μ5)))
set_option maxHeartbeats 4000000 in
set_option maxRecDepth 100000 in
theorem t12_rightIn_9 {p : Program} {l : Launch} {e : Env} {s : State} {m : MethodId} {args : Array Value} {below : List Frame} {meth : Method} {c : Code} {D : va_G} {θ : Th} {A : Nat → Prop} (K : KM p s m args c c12_rightIn 4 y12_rightIn (some .int) D θ A) (hr : meth.sig.returnType = (some .int)) (hlk : meth.locks = false) (N : Nat) (ρ : Int32 × Mz) : ∀ (n : Nat) (x1 : Int32) (x2 : Int32) (x3 : Int32) (μ : Mz), b12_rightIn_9 N n x1 x2 x3 μ = some ρ → JM p l e s m args below meth c D θ A 8 4 (QMi below args s D θ A ρ) μ [(0, .ref θ.1), (1, .int x1), (2, .int x2), (3, .int x3)] [] 9 := by
  intro n
  induction n with
  | zero =>
    intro x1 x2 x3 μ h
    exact absurd h (by simp [b12_rightIn_9])
  | succ n ih =>
    intro x1 x2 x3 μ h
    rw [b12_rightIn_9] at h
    refine j_iload_n K 3 d12_rightIn_9 rfl rfl ?_
    refine j_sipush (v := 200) K d12_rightIn_10 (by decide) ?_
    refine j_icmp_ge (tgt := 50) K d12_rightIn_13 (by decide) (fun q => ?_) (fun q => ?_)
    · have h := if_t h q
      refine j_aload_n K 0 d12_rightIn_50 rfl rfl ?_
      obtain ⟨μ2, e2, h⟩ := bo_e h
      refine mcall_v K (c12_laysBack_ok l D θ N  μ _ e2) mG_laysBack mh_laysBack (by decide) (by decide) rfl (st := []) (Nat.le_of_ble_eq_true rfl) rfl d12_rightIn_51 ?_
      refine j_iload_n K 2 d12_rightIn_54 rfl rfl ?_
      exact mret_i K h hr hlk d12_rightIn_55
    · have h := if_f h q
      refine j_iload_n K 2 d12_rightIn_16 rfl rfl ?_
      refine j_if_ge (tgt := 50) K d12_rightIn_17 (by decide) (fun q => ?_) (fun q => ?_)
      · have h := if_t h q
        refine j_aload_n K 0 d12_rightIn_50 rfl rfl ?_
        obtain ⟨μ3, e3, h⟩ := bo_e h
        refine mcall_v K (c12_laysBack_ok l D θ N  μ _ e3) mG_laysBack mh_laysBack (by decide) (by decide) rfl (st := []) (Nat.le_of_ble_eq_true rfl) rfl d12_rightIn_51 ?_
        refine j_iload_n K 2 d12_rightIn_54 rfl rfl ?_
        exact mret_i K h hr hlk d12_rightIn_55
      · have h := if_f h q
        refine j_aload_n K 0 d12_rightIn_20 rfl rfl ?_
        obtain ⟨r4, μ4, e4, h⟩ := bd_e h
        refine mcall_i K (c12_passes_ok l D θ N  μ _ e4) mG_passes mh_passes (by decide) (by decide) rfl (st := []) (Nat.le_of_ble_eq_true rfl) rfl d12_rightIn_21 ?_
        refine j_pop K d12_rightIn_24 rfl ?_
        refine j_aload_n K 0 d12_rightIn_25 rfl rfl ?_
        obtain ⟨r5, μ5, e5, h⟩ := bd_e h
        refine mcall_i K (c12_wrongOnes_ok l D θ N  μ4 _ e5) mG_wrongOnes mh_wrongOnes (by decide) (by decide) rfl (st := []) (Nat.le_of_ble_eq_true rfl) rfl d12_rightIn_26 ?_
        refine j_iload_n K 1 d12_rightIn_29 rfl rfl ?_
        refine j_iand K d12_rightIn_30 ?_
        refine j_if_ne (tgt := 44) K d12_rightIn_31 (by decide) (fun q => ?_) (fun q => ?_)
        · have h := if_f h q
          obtain ⟨v6, e6, h⟩ := lt_e h
          refine j_iinc (k := 3) (v := v6) (lv' := [(3, .int v6), (0, .ref θ.1), (1, .int x1), (2, .int x2)]) K d12_rightIn_44 rfl (by rw [e6]; rfl) (by decide) rfl ?_
          refine j_goto (tgt := 9) K d12_rightIn_47 (by decide) ?_
          refine j_sub [1, 2, 3, 0] rfl ?_
          exact ih x1 x2 v6 μ5 h
        · have h := if_t h q
          refine j_aload_n K 0 d12_rightIn_34 rfl rfl ?_
          refine mg_said K d12_rightIn_35 ?_
          refine j_bipush (v := 10) K d12_rightIn_38 (by decide) ?_
          refine ml_said K (inb_e (by decide)) d12_rightIn_40 ?_
          refine j_iconst (v := 1) K d12_rightIn_41 (by decide) ?_
          refine j_isub K d12_rightIn_42 ?_
          obtain ⟨v7, e7, h⟩ := lt_e h
          refine j_eqi e7 ?_
          refine j_istore_n (lv' := [(2, .int v7), (0, .ref θ.1), (1, .int x1), (3, .int x3)]) K d12_rightIn_43 rfl (by decide) rfl ?_
          obtain ⟨v8, e8, h⟩ := lt_e h
          refine j_iinc (k := 3) (v := v8) (lv' := [(3, .int v8), (2, .int v7), (0, .ref θ.1), (1, .int x1)]) K d12_rightIn_44 rfl (by rw [e8]; rfl) (by decide) rfl ?_
          refine j_goto (tgt := 9) K d12_rightIn_47 (by decide) ?_
          refine j_sub [2, 3, 1, 0] rfl ?_
          exact ih x1 v7 v8 μ5 h
def p12_rightIn (N : Nat) (a1 : Int32) (μ : Mz) : Option (Int32 × Mz) := bo (p12_keeps N  μ) (fun μ1 => b12_rightIn_9 N N a1 (-2) 0 μ1)
set_option maxHeartbeats 4000000 in
set_option maxRecDepth 100000 in
theorem c12_rightIn_ok (l : Launch) (D : va_G) (θ : Th) (N : Nat) (a1 : Int32) (μ : Mz) (ρ : Int32 × Mz) (h : p12_rightIn N a1 μ = some ρ) : CMi l D θ y12_rightIn c12_rightIn 4 (some .int) 8 [.int a1] μ ρ := by
  intro sz
  refine j_met l [.ref θ.1, .int a1] (by decide +kernel) (Nat.le_of_ble_eq_true rfl) ?_
  intro p e s m args below meth c K hr hlk hnm hs
  generalize va_A (wM θ μ) sz = A at K ⊢
  have K : KM p s m args c c12_rightIn 4 y12_rightIn (some .int) D θ A := K
  show JM p l e s m args below meth c D θ A 8 4 (QMi below args s D θ A ρ) μ [(0, .ref θ.1), (1, .int a1)] [] 0
  unfold p12_rightIn at h
  refine j_bipush (v := (-2)) K d12_rightIn_0 (by decide) ?_
  refine j_istore_n (lv' := [(2, .int (-2)), (0, .ref θ.1), (1, .int a1)]) K d12_rightIn_2 rfl (by decide) rfl ?_
  refine j_aload_n K 1 d12_rightIn_3 rfl rfl ?_
  obtain ⟨μ1, e1, h⟩ := bo_e h
  refine mcall_v K (c12_keeps_ok l D θ N  μ _ e1) mG_keeps mh_keeps (by decide) (by decide) rfl (st := []) (Nat.le_of_ble_eq_true rfl) rfl d12_rightIn_4 ?_
  refine j_iconst (v := 0) K d12_rightIn_7 (by decide) ?_
  refine j_istore_n (lv' := [(3, .int 0), (2, .int (-2)), (0, .ref θ.1), (1, .int a1)]) K d12_rightIn_8 rfl (by decide) rfl ?_
  refine j_sub [2, 3, 1, 0] rfl ?_
  exact t12_rightIn_9 K hr hlk N ρ N a1 (-2) 0 μ1 h
