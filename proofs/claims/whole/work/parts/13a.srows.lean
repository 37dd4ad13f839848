/-! the class's two texts -/
abbrev Ad : Type := (Nat → Nat) × (Nat → Nat) × Option Nat
def lenS : List Nat := [102, 11]
def bytS : List (List Int32) := [[108, 101, 116, 116, 101, 114, 32, 112, 117, 116, 32, 109, 101, 97, 110, 116, 32, 111, 118, 101, 114, 32, 108, 111, 111, 115, 101, 32, 119, 114, 111, 110, 103, 32, 112, 97, 105, 100, 32, 112, 117, 114, 115, 101, 32, 111, 119, 101, 100, 32, 102, 114, 111, 109, 32, 116, 111, 32, 101, 100, 105, 116, 105, 111, 110, 32, 98, 111, 111, 107, 32, 104, 97, 98, 105, 116, 32, 104, 97, 110, 103, 115, 32, 109, 101, 110, 100, 32, 105, 102, 32, 111, 114, 32, 97, 110, 100, 32, 110, 111, 116, 32], [59, 60, 61, 62, 43, 45, 42, 47, 37, 91, 93]]
def SC (ad : Ad) (A : Nat → Prop) (U : State) (H : Heap) : Prop := vk_S 2 lenS bytS ad.1 ad.2.1 A U H ∧ vk_R "ErrataRow$Tokens" 78 "letter put meant over loose wrong paid purse owed from to edition book habit hangs mend if or and not " (ad.1 0) U ∧ vk_R "ErrataRow$Tokens" 70 ";<=>+-*/%[]" (ad.1 1) U ∧ va_Z "java/lang/String" "COMPACT_STRINGS" "Z" (.int 1) A U H ∧ va_Z "jdk/internal/util/Preconditions" "SIOOBE_FORMATTER" "Ljava/util/function/BiFunction;" (va_rf ad.2.2) A U H
theorem SC.go {ad : Ad} {A B : Nat → Prop} {s U : State} {H : Heap} (h : SC ad A s s.heap) (hq : ∀ a : Nat, a < s.heap.size → ¬ A a → H[a]? = s.heap[a]?) (hAB : ∀ q, B q → A q) (hW : s.WarmedH U.vm) : SC ad B U H := by
  obtain ⟨h0, r0, r1, z1, z2⟩ := h
  exact ⟨((h0.kept hq).narrow hAB).moved hW.alike, r0.warm hW, r1.warm hW, ((z1.kept hq).narrow hAB).moved hW.alike, ((z2.kept hq).narrow hAB).moved hW.alike⟩
theorem SC.same {ad : Ad} {A : Nat → Prop} {s U : State} {H : Heap} (hV : U.vm = s.vm) (h : SC ad A s H) : SC ad A U H := by
  obtain ⟨h0, r0, r1, z1, z2⟩ := h
  have hv : s.vm.Alike U.vm := by rw [hV]; exact Vm.Alike.refl _
  exact ⟨h0.moved hv, r0.same hV, r1.same hV, z1.moved hv, z2.moved hv⟩
theorem SC.r0 {ad : Ad} {A : Nat → Prop} {U : State} {H : Heap} (h : SC ad A U H) : vk_R "ErrataRow$Tokens" 78 "letter put meant over loose wrong paid purse owed from to edition book habit hangs mend if or and not " (ad.1 0) U := h.2.1
theorem SC.r1 {ad : Ad} {A : Nat → Prop} {U : State} {H : Heap} (h : SC ad A U H) : vk_R "ErrataRow$Tokens" 70 ";<=>+-*/%[]" (ad.1 1) U := h.2.2.1
theorem SC.z1 {ad : Ad} {A : Nat → Prop} {U : State} {H : Heap} (h : SC ad A U H) : va_Z "java/lang/String" "COMPACT_STRINGS" "Z" (.int 1) A U H := h.2.2.2.1
theorem SC.z2 {ad : Ad} {A : Nat → Prop} {U : State} {H : Heap} (h : SC ad A U H) : va_Z "jdk/internal/util/Preconditions" "SIOOBE_FORMATTER" "Ljava/util/function/BiFunction;" (va_rf ad.2.2) A U H := h.2.2.2.2
abbrev PS (D : va_G) (θ : Tc) (ad : Ad) (av : List Value) (κ : Cz) (sz : Nat) : Array Value → State → Prop := va_Pc av (fun U => U.heap.size = sz ∧ va_P D vwCl (wE θ κ) U.heap ∧ va_K D vwCl (tC θ) U ∧ va_D (fun _ => True) (wE θ κ) ∧ NX U ∧ SC ad (va_A (wE θ κ) sz) U U.heap)
theorem PS_blind {D : va_G} {θ : Tc} {ad : Ad} {av : List Value} {κ : Cz} {sz : Nat} : FrameBlind (PS D θ ad av κ sz) := fun a U g mk q => by
  obtain ⟨q0, q1, qP, qK, qD, qN, qX⟩ := q
  exact ⟨q0, q1, qP, va_K.moved (u := U) (U := U.calling g mk a) (Vm.Alike.refl U.vm) qK, qD, NX.same rfl qN, SC.same rfl qX⟩
def CSEi (l : Launch) (D : va_G) (θ : Tc) (ad : Ad) (y : MethodName) (bytes : ByteArray) (maxL : Nat) (ret : Option FieldType) (k : Nat) (av : List Value) (κ : Cz) (ρ : Int32 × Cz) : Prop := ∀ sz, Met l y (.code y bytes maxL ret :: lw_gt) (rmA k 0 0) (PS D θ ad av κ sz) (va_Qi (fun r u => r = ρ.1 ∧ u = ρ.2) (Bm D vwCl (tC θ) (va_A (wE θ κ) sz) (wE θ)) (va_A (wE θ κ) sz)) 0 0 (va_A (wE θ κ) sz)
def CSEv (l : Launch) (D : va_G) (θ : Tc) (ad : Ad) (y : MethodName) (bytes : ByteArray) (maxL : Nat) (ret : Option FieldType) (k : Nat) (av : List Value) (κ : Cz) (ρ : Cz) : Prop := ∀ sz, Met l y (.code y bytes maxL ret :: lw_gt) (rmA k 0 0) (PS D θ ad av κ sz) (va_Qv (fun u => u = ρ) (Bm D vwCl (tC θ) (va_A (wE θ κ) sz) (wE θ)) (va_A (wE θ κ) sz)) 0 0 (va_A (wE θ κ) sz)
theorem sm_met (l : Launch) {y : MethodName} {cc : ByteArray} {nL : Nat} {ret : Option FieldType} {Ts' : List Cond} {rm : Room} {D : va_G} {θ : Tc} {ad : Ad} {κ : Cz} {sz mc ms : Nat} {Qc : Array Value → State → Outcome → State → Prop} (av : List Value) (hy : plainName y.cls = true) (hn : (lg_sl av).length ≤ nL)
    (body : ∀ (p : Program) (e : Env) (s : State) (m : MethodId) (args : Array Value) (below : List Frame) (meth : Method) (c : Code), KK p s m args c cc nL y.cls (.code y cc nL ret :: Ts') D vwCl (tC θ) (va_A (wE θ κ) sz) → NX s → SC ad (va_A (wE θ κ) sz) s s.heap → meth.sig.returnType = ret → meth.locks = false → meth.name = y.name → s.heap.size = sz → JJ p l e rm s m args below meth c D vwCl (va_A (wE θ κ) sz) nL 0 0 (MQ below Qc args s mc ms (va_A (wE θ κ) sz)) (wE θ κ) (lv_args 0 av) [] 0) :
    Met l y (.code y cc nL ret :: Ts') rm (PS D θ ad av κ sz) Qc mc ms (va_A (wE θ κ) sz) := by
  refine Met.ofW (cc := cc) (maxL := nL) (ret := ret) hy rfl ?_
  intro p e s m args below meth c s₁ B hml hv
  obtain ⟨rfl, hsz, hP, hK, hD0, hN, hX⟩ := hv
  have hts := atoms_spec (ws := .code y cc nL ret :: Ts') B.pre
  have hown : s.vm.findClass y.cls = some m.cls := findClass_of_methodNamed B.named
  have hlocks := B.notSynchronized
  have hin : meth.name = y.name := (name_of_methodNamed B.named B.method).1
  subst hsz
  have hD := hD0.self (sz := s.heap.size)
  have hA : ∀ q : Nat, s.heap.size ≤ q → va_A (wE θ κ) s.heap.size q := fun q h => Or.inr h
  have hS : va_S (va_A (wE θ κ) s.heap.size) s.heap s.heap [] := va_S.rf
  have hl := lv_entry av (n := nL) hn
  rw [lg_entry_eq]
  exact body p e s m av.toArray below meth c ⟨B.exec, B.bytes, hml, hown, hts, hK, hA⟩ hN hX B.returns hlocks hin rfl s.heap [] _ hP hD hS hl
def ich (v : Int32) : Bool := decide (v = (v.toUInt32 % 65536).toInt32)
theorem ich_e {v : Int32} (h : ich v = true) : narrow .char (.int v) = .int v := by
  have e : v = (v.toUInt32 % 65536).toInt32 := of_decide_eq_true h
  rw [e]
  exact pk_nc _
def CWSi (l : Launch) (D : va_G) (θ : Tc) (ad : Ad) (y : MethodName) (bytes : ByteArray) (maxL : Nat) (ret : Option FieldType) (k mc ms : Nat) (av : List Value) (κ : Cz) (post : Int32 → Cz → Prop) : Prop := ∀ sz, Met l y (.code y bytes maxL ret :: lw_gt) (rmA k mc ms) (PS D θ ad av κ sz) (va_Qi post (Bm D vwCl (tC θ) (va_A (wE θ κ) sz) (wE θ)) (va_A (wE θ κ) sz)) mc ms (va_A (wE θ κ) sz)
section SRows
variable {p : Program} {l : Launch} {e : Env} {R : Room} {s : State} {m : MethodId} {args : Array Value} {below : List Frame} {meth : Method} {c : Code} {cc : ByteArray} {nL ce sl : Nat} {own : String} {y0 : MethodName} {r0 : Option FieldType} {D : va_G} {θ : Tc} {A : Nat → Prop} {ad : Ad} {Q : State → Prop} {κ : Cz} {lv : List (Nat × Value)} {st : List Value} {pc : Nat}
theorem s_ldc0 (K : KE p s m args c cc nL "ErrataRow$Tokens" y0 r0 D θ A) (hX : SC ad A s s.heap) (hdg : decode cc pc = .ok (.ldc 78, 2)) (kk : JE p l e R s m args below meth c D θ A nL ce sl Q κ lv (.ref (ad.1 0) :: st) (pc + 2)) : JE p l e R s m args below meth c D θ A nL ce sl Q κ lv st pc := fun H locs ls hP hD hS h => va_ldcS K.1 K.2.1 K.2.2.2.1 hX.r0 hdg (kk H locs ls hP hD hS h)
theorem s_ldc1 (K : KE p s m args c cc nL "ErrataRow$Tokens" y0 r0 D θ A) (hX : SC ad A s s.heap) (hdg : decode cc pc = .ok (.ldc 70, 2)) (kk : JE p l e R s m args below meth c D θ A nL ce sl Q κ lv (.ref (ad.1 1) :: st) (pc + 2)) : JE p l e R s m args below meth c D θ A nL ce sl Q κ lv st pc := fun H locs ls hP hD hS h => va_ldcS K.1 K.2.1 K.2.2.2.1 hX.r1 hdg (kk H locs ls hP hD hS h)
theorem s_value (K : KE p s m args c cc nL own y0 r0 D θ A) (hX : SC ad A s s.heap) {i index : Nat} (hi : i < 2) (hlink : Cond.fieldLink own index "java/lang/String" "value" "[B" ∈ lw_gt) (hdg : decode cc pc = .ok (.getfield index, 3)) (kk : JE p l e R s m args below meth c D θ A nL ce sl Q κ lv (.ref (ad.2.1 i) :: st) (pc + 3)) : JE p l e R s m args below meth c D θ A nL ce sl Q κ lv (.ref (ad.1 i) :: st) pc := fun H locs ls hP hD hS h => vk_getf K.1 K.2.1 (hX.1.1 i hi).2.2.1 hS K.2.2.2.1 (K.2.2.2.2.1 _ (List.mem_cons_of_mem _ hlink)) (fun _ h9 => h9) hdg (kk H locs ls hP hD hS h)
theorem s_coder (K : KE p s m args c cc nL own y0 r0 D θ A) (hX : SC ad A s s.heap) {i index : Nat} (hi : i < 2) (hlink : Cond.fieldLink own index "java/lang/String" "coder" "B" ∈ lw_gt) (hdg : decode cc pc = .ok (.getfield index, 3)) (kk : JE p l e R s m args below meth c D θ A nL ce sl Q κ lv (.int 0 :: st) (pc + 3)) : JE p l e R s m args below meth c D θ A nL ce sl Q κ lv (.ref (ad.1 i) :: st) pc := fun H locs ls hP hD hS h => vk_getf K.1 K.2.1 (hX.1.1 i hi).2.1 hS K.2.2.2.1 (K.2.2.2.2.1 _ (List.mem_cons_of_mem _ hlink)) (fun _ h9 => h9) hdg (kk H locs ls hP hD hS h)
theorem s_bald (K : KE p s m args c cc nL own y0 r0 D θ A) (hX : SC ad A s s.heap) {i : Nat} (hi : i < 2) {j : Int32} (hin : vp_in j (lenS.getD i 0)) (hdg : decode cc pc = .ok (.baload, 1)) (kk : JE p l e R s m args below meth c D θ A nL ce sl Q κ lv (.int ((bytS.getD i []).getD j.toNatClampNeg 0) :: st) (pc + 1)) : JE p l e R s m args below meth c D θ A nL ce sl Q κ lv (.int j :: .ref (ad.2.1 i) :: st) pc := fun H locs ls hP hD hS h => va_tb K.1 K.2.1 (hX.1.1 i hi).2.2.2 hS hin rfl hdg (kk H locs ls hP hD hS h)
theorem s_alen (K : KE p s m args c cc nL own y0 r0 D θ A) (hX : SC ad A s s.heap) {i : Nat} (hi : i < 2) (hdg : decode cc pc = .ok (.arraylength, 1)) (kk : JE p l e R s m args below meth c D θ A nL ce sl Q κ lv (.int (nI (lenS.getD i 0)) :: st) (pc + 1)) : JE p l e R s m args below meth c D θ A nL ce sl Q κ lv (.ref (ad.2.1 i) :: st) pc := fun H locs ls hP hD hS h => va_tlen K.1 K.2.1 (hX.1.1 i hi).2.2.2 hS rfl hdg (kk H locs ls hP hD hS h)
theorem s_compact (K : KE p s m args c cc nL own y0 r0 D θ A) (hX : SC ad A s s.heap) {index : Nat} (hlink : Cond.fieldLink own index "java/lang/String" "COMPACT_STRINGS" "Z" ∈ lw_gt) (hdg : decode cc pc = .ok (.getstatic index, 3)) (kk : JE p l e R s m args below meth c D θ A nL ce sl Q κ lv (.int 1 :: st) (pc + 3)) : JE p l e R s m args below meth c D θ A nL ce sl Q κ lv st pc := fun H locs ls hP hD hS h => va_gets K.1 K.2.1 hX.z1 hS K.2.2.2.1 (K.2.2.2.2.1 _ (List.mem_cons_of_mem _ hlink)) (fun _ h9 => h9) hdg (kk H locs ls hP hD hS h)
theorem s_fmt (K : KE p s m args c cc nL own y0 r0 D θ A) (hX : SC ad A s s.heap) {index : Nat} (hlink : Cond.fieldLink own index "jdk/internal/util/Preconditions" "SIOOBE_FORMATTER" "Ljava/util/function/BiFunction;" ∈ lw_gt) (hdg : decode cc pc = .ok (.getstatic index, 3)) (kk : JE p l e R s m args below meth c D θ A nL ce sl Q κ lv (va_rf ad.2.2 :: st) (pc + 3)) : JE p l e R s m args below meth c D θ A nL ce sl Q κ lv st pc := fun H locs ls hP hD hS h => va_gets K.1 K.2.1 hX.z2 hS K.2.2.2.1 (K.2.2.2.2.1 _ (List.mem_cons_of_mem _ hlink)) (fun _ h9 => h9) hdg (kk H locs ls hP hD hS h)
theorem eret_c (K : KE p s m args c cc nL own y0 r0 D θ A) {v : Int32} {ρ : Int32 × Cz} (h : some (v, κ) = some ρ) (hz : narrow .char (.int v) = .int v) (hr : meth.sig.returnType = (some .char)) (hk : meth.locks = false) (hdg : decode cc pc = .ok (.ireturn, 1)) : JE p l e R s m args below meth c D θ A nL ce sl (QEi below args s D θ A ce sl ρ) κ lv [.int v] pc := fun H locs ls hP hD hS h9 => by
  cases h
  exact W.zret K.1 K.2.1 hr hz (fun t ht hW => ⟨⟨v, κ, rfl, ⟨rfl, rfl⟩, by rw [ht]; exact hP, va_K.moved hW.alike K.2.2.2.2.2.1, hD⟩, hS.F ht⟩) hS.2.2 hdg hk
theorem eret_b (K : KE p s m args c cc nL own y0 r0 D θ A) {v : Int32} {ρ : Int32 × Cz} (h : some (v, κ) = some ρ) (hz : narrow .byte (.int v) = .int v) (hr : meth.sig.returnType = (some .byte)) (hk : meth.locks = false) (hdg : decode cc pc = .ok (.ireturn, 1)) : JE p l e R s m args below meth c D θ A nL ce sl (QEi below args s D θ A ce sl ρ) κ lv [.int v] pc := fun H locs ls hP hD hS h9 => by
  cases h
  exact W.zret K.1 K.2.1 hr hz (fun t ht hW => ⟨⟨v, κ, rfl, ⟨rfl, rfl⟩, by rw [ht]; exact hP, va_K.moved hW.alike K.2.2.2.2.2.1, hD⟩, hS.F ht⟩) hS.2.2 hdg hk
theorem scallV_i (K : KE p s m args c cc nL own y0 r0 D θ A) (hN : NX s) (hX : SC ad A s s.heap) {y : MethodName} {bytes : ByteArray} {maxL j index n : Nat} {ret : Option FieldType} {As : List Value} {st0 : List Value} {b ci : Nat} {r : Int32} {κ1 : Cz} (hM : CSEi l D θ ad y bytes maxL ret j (.ref b :: As) κ (r, κ1)) (hG : GoodIn (.code y0 cc nL r0 :: lw_gt) (wsV own index y.cls y (.code y bytes maxL ret :: lw_gt))) (hd : y.cls ≠ "java/lang/invoke/MethodHandle" ∧ y.cls ≠ "java/lang/invoke/VarHandle" ∧ (parseMethodDescriptor y.desc).map (fun d => d.parameters.length) = some n) (hR : (rmA j 0 0).frames + 1 ≤ R.frames ∧ 8 + (maxL + 11) + (rmA j 0 0).locals ≤ R.locals) (hn : As.length = n) (hb : isK κ b ci = true) (hci : ci < 12) {T : u_T} {N : Nat} (hc : vwCl[ci]? = some (y.cls, T, N)) (hst : (st.map fun v => v.category).sum ≤ 8) (hs0 : st0 = As.reverse ++ .ref b :: st) (hdg : decode cc pc = .ok (.invokevirtual index, 3)) (hf : ce ≤ R.cells ∧ sl ≤ R.slots) (kk : JE p l e R s m args below meth c D θ A nL ce sl Q κ1 lv (.int r :: st) (pc + 3)) : JE p l e R s m args below meth c D θ A nL ce sl Q κ lv st0 pc := by
  intro H locs ls hP hD hS h
  subst hs0
  obtain ⟨hx, hb9, hml, hown, hts, hK, hA⟩ := K
  have hsp := sp_all (wE θ κ)
  have hFc := hsp.F hD hS hA
  obtain ⟨q0, he⟩ := wE_get θ (isK_m hb)
  rw [cE_o θ (isK_k hb) hci] at he
  refine va_calli (va_runV (As := As) (rest := st) ⟨hx, hb9, hml, hown, hts⟩ (hM H.size) (cwV n hts hG rfl rfl rfl ⟨rfl, hd⟩ hR) ⟨PS_blind, va_recv hK hP hc he, fun U hU hW => ⟨rfl, by rw [hU], by rw [hU]; exact hP, va_K.moved hW.alike hK, hD.weaken (fun _ _ _ _ => trivial), NX.warm hW hN, by rw [hU]; exact hX.go hS.2.1 hFc hW⟩⟩ rfl hn h.1 rfl (lv_room hst) hdg hf) hS (fun q _ h => hFc q h) hFc (fun r1 u t H1 locs1 ht hvm hw hB hz1 hk1 hS1 => ?_)
  obtain ⟨hP1, hK1, hD1⟩ := hB
  rw [ht] at hP1
  obtain ⟨rfl, rfl⟩ := hw
  obtain ⟨hP2, hD2⟩ := hsp.J hP hD hk1 hFc hP1 hD1
  exact kk H1 locs1 ls hP2 hD2 hS1 h
theorem scallT_i (K : KE p s m args c cc nL own y0 r0 D θ A) (hN : NX s) (hX : SC ad A s s.heap) {y : MethodName} {bytes : ByteArray} {maxL j index n : Nat} {ret : Option FieldType} {As : List Value} {st0 : List Value} {i : Nat} {r : Int32} {κ1 : Cz} (hM : CSEi l D θ ad y bytes maxL ret j (.ref (ad.1 i) :: As) κ (r, κ1)) (hG : GoodIn (.code y0 cc nL r0 :: lw_gt) (wsV own index y.cls y (.code y bytes maxL ret :: lw_gt))) (hd : y.cls ≠ "java/lang/invoke/MethodHandle" ∧ y.cls ≠ "java/lang/invoke/VarHandle" ∧ (parseMethodDescriptor y.desc).map (fun d => d.parameters.length) = some n) (hR : (rmA j 0 0).frames + 1 ≤ R.frames ∧ 8 + (maxL + 11) + (rmA j 0 0).locals ≤ R.locals) (hn : As.length = n) (hi : i < 2) (hcs : y.cls = "java/lang/String") (hst : (st.map fun v => v.category).sum ≤ 8) (hs0 : st0 = As.reverse ++ .ref (ad.1 i) :: st) (hdg : decode cc pc = .ok (.invokevirtual index, 3)) (hf : ce ≤ R.cells ∧ sl ≤ R.slots) (kk : JE p l e R s m args below meth c D θ A nL ce sl Q κ1 lv (.int r :: st) (pc + 3)) : JE p l e R s m args below meth c D θ A nL ce sl Q κ lv st0 pc := by
  intro H locs ls hP hD hS h
  subst hs0
  obtain ⟨hx, hb9, hml, hown, hts, hK, hA⟩ := K
  have hsp := sp_all (wE θ κ)
  have hFc := hsp.F hD hS hA
  refine va_calli (va_runV (As := As) (rest := st) ⟨hx, hb9, hml, hown, hts⟩ (hM H.size) (cwV n hts hG rfl rfl rfl ⟨rfl, hd⟩ hR) ⟨PS_blind, by rw [hcs]; exact vk_recv hX.1 hi hS, fun U hU hW => ⟨rfl, by rw [hU], by rw [hU]; exact hP, va_K.moved hW.alike hK, hD.weaken (fun _ _ _ _ => trivial), NX.warm hW hN, by rw [hU]; exact hX.go hS.2.1 hFc hW⟩⟩ rfl hn h.1 rfl (lv_room hst) hdg hf) hS (fun q _ h => hFc q h) hFc (fun r1 u t H1 locs1 ht hvm hw hB hz1 hk1 hS1 => ?_)
  obtain ⟨hP1, hK1, hD1⟩ := hB
  rw [ht] at hP1
  obtain ⟨rfl, rfl⟩ := hw
  obtain ⟨hP2, hD2⟩ := hsp.J hP hD hk1 hFc hP1 hD1
  exact kk H1 locs1 ls hP2 hD2 hS1 h
theorem scallS_i (K : KE p s m args c cc nL own y0 r0 D θ A) (hN : NX s) (hX : SC ad A s s.heap) {y : MethodName} {bytes : ByteArray} {maxL j index n : Nat} {ret : Option FieldType} {As : List Value} {st0 : List Value} {r : Int32} {κ1 : Cz} (hM : CSEi l D θ ad y bytes maxL ret j As κ (r, κ1)) (hG : GoodIn (.code y0 cc nL r0 :: lw_gt) (va_wsS own index y (.code y bytes maxL ret :: lw_gt))) (hd : y.cls ≠ "java/lang/invoke/MethodHandle" ∧ y.cls ≠ "java/lang/invoke/VarHandle" ∧ (parseMethodDescriptor y.desc).map (fun d => d.parameters.length) = some n) (hR : (rmA j 0 0).frames + 1 ≤ R.frames ∧ 8 + (maxL + 11) + (rmA j 0 0).locals ≤ R.locals) (hn : As.length = n) (hst : (st.map fun v => v.category).sum ≤ 8) (hs0 : st0 = As.reverse ++ st) (hdg : decode cc pc = .ok (.invokestatic index, 3)) (hf : ce ≤ R.cells ∧ sl ≤ R.slots) (kk : JE p l e R s m args below meth c D θ A nL ce sl Q κ1 lv (.int r :: st) (pc + 3)) : JE p l e R s m args below meth c D θ A nL ce sl Q κ lv st0 pc := by
  intro H locs ls hP hD hS h
  subst hs0
  obtain ⟨hx, hb9, hml, hown, hts, hK, hA⟩ := K
  have hsp := sp_all (wE θ κ)
  have hFc := hsp.F hD hS hA
  refine va_calli (va_runS (As := As) (rest := st) ⟨hx, hb9, hml, hown, hts⟩ (hM H.size) (va_cwS n hts hG rfl rfl rfl hd hR) ⟨PS_blind, fun U hU hW => ⟨rfl, by rw [hU], by rw [hU]; exact hP, va_K.moved hW.alike hK, hD.weaken (fun _ _ _ _ => trivial), NX.warm hW hN, by rw [hU]; exact hX.go hS.2.1 hFc hW⟩⟩ rfl hn h.1 rfl (lv_room hst) hdg hf) hS (fun q _ h => hFc q h) hFc (fun r1 u t H1 locs1 ht hvm hw hB hz1 hk1 hS1 => ?_)
  obtain ⟨hP1, hK1, hD1⟩ := hB
  rw [ht] at hP1
  obtain ⟨rfl, rfl⟩ := hw
  obtain ⟨hP2, hD2⟩ := hsp.J hP hD hk1 hFc hP1 hD1
  exact kk H1 locs1 ls hP2 hD2 hS1 h
theorem scallV_v (K : KE p s m args c cc nL own y0 r0 D θ A) (hN : NX s) (hX : SC ad A s s.heap) {y : MethodName} {bytes : ByteArray} {maxL j index n : Nat} {ret : Option FieldType} {As : List Value} {st0 : List Value} {b ci : Nat} {κ1 : Cz} (hM : CSEv l D θ ad y bytes maxL ret j (.ref b :: As) κ κ1) (hG : GoodIn (.code y0 cc nL r0 :: lw_gt) (wsV own index y.cls y (.code y bytes maxL ret :: lw_gt))) (hd : y.cls ≠ "java/lang/invoke/MethodHandle" ∧ y.cls ≠ "java/lang/invoke/VarHandle" ∧ (parseMethodDescriptor y.desc).map (fun d => d.parameters.length) = some n) (hR : (rmA j 0 0).frames + 1 ≤ R.frames ∧ 8 + (maxL + 11) + (rmA j 0 0).locals ≤ R.locals) (hn : As.length = n) (hb : isK κ b ci = true) (hci : ci < 12) {T : u_T} {N : Nat} (hc : vwCl[ci]? = some (y.cls, T, N)) (hst : (st.map fun v => v.category).sum ≤ 8) (hs0 : st0 = As.reverse ++ .ref b :: st) (hdg : decode cc pc = .ok (.invokevirtual index, 3)) (hf : ce ≤ R.cells ∧ sl ≤ R.slots) (kk : JE p l e R s m args below meth c D θ A nL ce sl Q κ1 lv st (pc + 3)) : JE p l e R s m args below meth c D θ A nL ce sl Q κ lv st0 pc := by
  intro H locs ls hP hD hS h
  subst hs0
  obtain ⟨hx, hb9, hml, hown, hts, hK, hA⟩ := K
  have hsp := sp_all (wE θ κ)
  have hFc := hsp.F hD hS hA
  obtain ⟨q0, he⟩ := wE_get θ (isK_m hb)
  rw [cE_o θ (isK_k hb) hci] at he
  refine va_callv (va_runV (As := As) (rest := st) ⟨hx, hb9, hml, hown, hts⟩ (hM H.size) (cwV n hts hG rfl rfl rfl ⟨rfl, hd⟩ hR) ⟨PS_blind, va_recv hK hP hc he, fun U hU hW => ⟨rfl, by rw [hU], by rw [hU]; exact hP, va_K.moved hW.alike hK, hD.weaken (fun _ _ _ _ => trivial), NX.warm hW hN, by rw [hU]; exact hX.go hS.2.1 hFc hW⟩⟩ rfl hn h.1 rfl (lv_room hst) hdg hf) hS (fun q _ h => hFc q h) hFc (fun u t H1 locs1 ht hvm hw hB hz1 hk1 hS1 => ?_)
  obtain ⟨hP1, hK1, hD1⟩ := hB
  rw [ht] at hP1
  subst hw
  obtain ⟨hP2, hD2⟩ := hsp.J hP hD hk1 hFc hP1 hD1
  exact kk H1 locs1 ls hP2 hD2 hS1 h
theorem scallT_v (K : KE p s m args c cc nL own y0 r0 D θ A) (hN : NX s) (hX : SC ad A s s.heap) {y : MethodName} {bytes : ByteArray} {maxL j index n : Nat} {ret : Option FieldType} {As : List Value} {st0 : List Value} {i : Nat} {κ1 : Cz} (hM : CSEv l D θ ad y bytes maxL ret j (.ref (ad.1 i) :: As) κ κ1) (hG : GoodIn (.code y0 cc nL r0 :: lw_gt) (wsV own index y.cls y (.code y bytes maxL ret :: lw_gt))) (hd : y.cls ≠ "java/lang/invoke/MethodHandle" ∧ y.cls ≠ "java/lang/invoke/VarHandle" ∧ (parseMethodDescriptor y.desc).map (fun d => d.parameters.length) = some n) (hR : (rmA j 0 0).frames + 1 ≤ R.frames ∧ 8 + (maxL + 11) + (rmA j 0 0).locals ≤ R.locals) (hn : As.length = n) (hi : i < 2) (hcs : y.cls = "java/lang/String") (hst : (st.map fun v => v.category).sum ≤ 8) (hs0 : st0 = As.reverse ++ .ref (ad.1 i) :: st) (hdg : decode cc pc = .ok (.invokevirtual index, 3)) (hf : ce ≤ R.cells ∧ sl ≤ R.slots) (kk : JE p l e R s m args below meth c D θ A nL ce sl Q κ1 lv st (pc + 3)) : JE p l e R s m args below meth c D θ A nL ce sl Q κ lv st0 pc := by
  intro H locs ls hP hD hS h
  subst hs0
  obtain ⟨hx, hb9, hml, hown, hts, hK, hA⟩ := K
  have hsp := sp_all (wE θ κ)
  have hFc := hsp.F hD hS hA
  refine va_callv (va_runV (As := As) (rest := st) ⟨hx, hb9, hml, hown, hts⟩ (hM H.size) (cwV n hts hG rfl rfl rfl ⟨rfl, hd⟩ hR) ⟨PS_blind, by rw [hcs]; exact vk_recv hX.1 hi hS, fun U hU hW => ⟨rfl, by rw [hU], by rw [hU]; exact hP, va_K.moved hW.alike hK, hD.weaken (fun _ _ _ _ => trivial), NX.warm hW hN, by rw [hU]; exact hX.go hS.2.1 hFc hW⟩⟩ rfl hn h.1 rfl (lv_room hst) hdg hf) hS (fun q _ h => hFc q h) hFc (fun u t H1 locs1 ht hvm hw hB hz1 hk1 hS1 => ?_)
  obtain ⟨hP1, hK1, hD1⟩ := hB
  rw [ht] at hP1
  subst hw
  obtain ⟨hP2, hD2⟩ := hsp.J hP hD hk1 hFc hP1 hD1
  exact kk H1 locs1 ls hP2 hD2 hS1 h
theorem scallS_v (K : KE p s m args c cc nL own y0 r0 D θ A) (hN : NX s) (hX : SC ad A s s.heap) {y : MethodName} {bytes : ByteArray} {maxL j index n : Nat} {ret : Option FieldType} {As : List Value} {st0 : List Value} {κ1 : Cz} (hM : CSEv l D θ ad y bytes maxL ret j As κ κ1) (hG : GoodIn (.code y0 cc nL r0 :: lw_gt) (va_wsS own index y (.code y bytes maxL ret :: lw_gt))) (hd : y.cls ≠ "java/lang/invoke/MethodHandle" ∧ y.cls ≠ "java/lang/invoke/VarHandle" ∧ (parseMethodDescriptor y.desc).map (fun d => d.parameters.length) = some n) (hR : (rmA j 0 0).frames + 1 ≤ R.frames ∧ 8 + (maxL + 11) + (rmA j 0 0).locals ≤ R.locals) (hn : As.length = n) (hst : (st.map fun v => v.category).sum ≤ 8) (hs0 : st0 = As.reverse ++ st) (hdg : decode cc pc = .ok (.invokestatic index, 3)) (hf : ce ≤ R.cells ∧ sl ≤ R.slots) (kk : JE p l e R s m args below meth c D θ A nL ce sl Q κ1 lv st (pc + 3)) : JE p l e R s m args below meth c D θ A nL ce sl Q κ lv st0 pc := by
  intro H locs ls hP hD hS h
  subst hs0
  obtain ⟨hx, hb9, hml, hown, hts, hK, hA⟩ := K
  have hsp := sp_all (wE θ κ)
  have hFc := hsp.F hD hS hA
  refine va_callv (va_runS (As := As) (rest := st) ⟨hx, hb9, hml, hown, hts⟩ (hM H.size) (va_cwS n hts hG rfl rfl rfl hd hR) ⟨PS_blind, fun U hU hW => ⟨rfl, by rw [hU], by rw [hU]; exact hP, va_K.moved hW.alike hK, hD.weaken (fun _ _ _ _ => trivial), NX.warm hW hN, by rw [hU]; exact hX.go hS.2.1 hFc hW⟩⟩ rfl hn h.1 rfl (lv_room hst) hdg hf) hS (fun q _ h => hFc q h) hFc (fun u t H1 locs1 ht hvm hw hB hz1 hk1 hS1 => ?_)
  obtain ⟨hP1, hK1, hD1⟩ := hB
  rw [ht] at hP1
  subst hw
  obtain ⟨hP2, hD2⟩ := hsp.J hP hD hk1 hFc hP1 hD1
  exact kk H1 locs1 ls hP2 hD2 hS1 h
end SRows
theorem ef_String_9 : Cond.fieldLink "java/lang/String" 9 "java/lang/String" "value" "[B" ∈ lw_gt := lw_at 1849 (by decide +kernel) rfl
theorem ef_String_15 : Cond.fieldLink "java/lang/String" 15 "java/lang/String" "coder" "B" ∈ lw_gt := lw_at 1850 (by decide +kernel) rfl
theorem ef_String_38 : Cond.fieldLink "java/lang/String" 38 "java/lang/String" "COMPACT_STRINGS" "Z" ∈ lw_gt := lw_at 560 (by decide +kernel) rfl
theorem ef_String_1053 : Cond.fieldLink "java/lang/String" 1053 "jdk/internal/util/Preconditions" "SIOOBE_FORMATTER" "Ljava/util/function/BiFunction;" ∈ lw_gt := lw_at 576 (by decide +kernel) rfl
theorem ei_String : Cond.initialized "java/lang/String" ∈ lw_gt := lw_at 137 (by decide +kernel) rfl
theorem ei_StringLatin1 : Cond.initialized "java/lang/StringLatin1" ∈ lw_gt := lw_at 138 (by decide +kernel) rfl
theorem ei_Preconditions : Cond.initialized "jdk/internal/util/Preconditions" ∈ lw_gt := lw_at 139 (by decide +kernel) rfl
theorem el_StringLatin1_92 : Cond.methodLink "java/lang/StringLatin1" 92 Lib.Math.max.name ∈ lw_gt := lw_at 623 (by decide +kernel) rfl
theorem el_StringLatin1_38 : Cond.methodLink "java/lang/StringLatin1" 38 Lib.Math.min.name ∈ lw_gt := lw_at 626 (by decide +kernel) rfl
abbrev c_Preconditions_checkIndex : ByteArray := prog_24_method_11_code
def y_Preconditions_checkIndex : MethodName := ⟨"jdk/internal/util/Preconditions", "checkIndex", "(IILjava/util/function/BiFunction;)I"⟩
theorem d_Preconditions_checkIndex_0 : decode c_Preconditions_checkIndex 0 = .ok (.iload_n 0, 1) := by decide +kernel
theorem d_Preconditions_checkIndex_1 : decode c_Preconditions_checkIndex 1 = .ok (.ifCond .lt 8, 3) := by decide +kernel
theorem d_Preconditions_checkIndex_4 : decode c_Preconditions_checkIndex 4 = .ok (.iload_n 0, 1) := by decide +kernel
theorem d_Preconditions_checkIndex_5 : decode c_Preconditions_checkIndex 5 = .ok (.iload_n 1, 1) := by decide +kernel
theorem d_Preconditions_checkIndex_6 : decode c_Preconditions_checkIndex 6 = .ok (.if_icmp .lt 10, 3) := by decide +kernel
theorem d_Preconditions_checkIndex_9 : decode c_Preconditions_checkIndex 9 = .ok (.aload_n 2, 1) := by decide +kernel
theorem d_Preconditions_checkIndex_10 : decode c_Preconditions_checkIndex 10 = .ok (.iload_n 0, 1) := by decide +kernel
theorem d_Preconditions_checkIndex_11 : decode c_Preconditions_checkIndex 11 = .ok (.iload_n 1, 1) := by decide +kernel
theorem d_Preconditions_checkIndex_12 : decode c_Preconditions_checkIndex 12 = .ok (.invokestatic 95, 3) := by decide +kernel
theorem d_Preconditions_checkIndex_15 : decode c_Preconditions_checkIndex 15 = .ok (.athrow, 1) := by decide +kernel
theorem d_Preconditions_checkIndex_16 : decode c_Preconditions_checkIndex 16 = .ok (.iload_n 0, 1) := by decide +kernel
theorem d_Preconditions_checkIndex_17 : decode c_Preconditions_checkIndex 17 = .ok (.ireturn, 1) := by decide +kernel
theorem ec_Preconditions_checkIndex : Cond.code y_Preconditions_checkIndex c_Preconditions_checkIndex 3 (some .int) ∈ lw_gt := lw_at 580 (by decide +kernel) rfl
theorem eh_Preconditions_checkIndex : y_Preconditions_checkIndex.cls ≠ "java/lang/invoke/MethodHandle" ∧ y_Preconditions_checkIndex.cls ≠ "java/lang/invoke/VarHandle" ∧ (parseMethodDescriptor y_Preconditions_checkIndex.desc).map (fun d => d.parameters.length) = some 3 := by decide +kernel
theorem es_Preconditions_checkIndex : Cond.static y_Preconditions_checkIndex ∈ lw_gt := lw_at 579 (by decide +kernel) rfl
theorem eG_String_1059 {cc : ByteArray} {nL : Nat} {y0 : MethodName} {r0 : Option FieldType} : GoodIn (.code y0 cc nL r0 :: lw_gt) (va_wsS "java/lang/String" 1059 y_Preconditions_checkIndex (.code y_Preconditions_checkIndex c_Preconditions_checkIndex 3 (some .int) :: lw_gt)) := gdS (lw_at 578 (by decide +kernel) rfl) es_Preconditions_checkIndex ei_Preconditions ec_Preconditions_checkIndex
abbrev c_String_checkIndex : ByteArray := prog_19_method_155_code
def y_String_checkIndex : MethodName := ⟨"java/lang/String", "checkIndex", "(II)V"⟩
theorem d_String_checkIndex_0 : decode c_String_checkIndex 0 = .ok (.iload_n 0, 1) := by decide +kernel
theorem d_String_checkIndex_1 : decode c_String_checkIndex 1 = .ok (.iload_n 1, 1) := by decide +kernel
theorem d_String_checkIndex_2 : decode c_String_checkIndex 2 = .ok (.getstatic 1053, 3) := by decide +kernel
theorem d_String_checkIndex_5 : decode c_String_checkIndex 5 = .ok (.invokestatic 1059, 3) := by decide +kernel
theorem d_String_checkIndex_8 : decode c_String_checkIndex 8 = .ok (.pop, 1) := by decide +kernel
theorem d_String_checkIndex_9 : decode c_String_checkIndex 9 = .ok (.return_, 1) := by decide +kernel
theorem ec_String_checkIndex : Cond.code y_String_checkIndex c_String_checkIndex 2 none ∈ lw_gt := lw_at 575 (by decide +kernel) rfl
theorem eh_String_checkIndex : y_String_checkIndex.cls ≠ "java/lang/invoke/MethodHandle" ∧ y_String_checkIndex.cls ≠ "java/lang/invoke/VarHandle" ∧ (parseMethodDescriptor y_String_checkIndex.desc).map (fun d => d.parameters.length) = some 2 := by decide +kernel
theorem es_String_checkIndex : Cond.static y_String_checkIndex ∈ lw_gt := lw_at 574 (by decide +kernel) rfl
theorem eG_StringLatin1_9 {cc : ByteArray} {nL : Nat} {y0 : MethodName} {r0 : Option FieldType} : GoodIn (.code y0 cc nL r0 :: lw_gt) (va_wsS "java/lang/StringLatin1" 9 y_String_checkIndex (.code y_String_checkIndex c_String_checkIndex 2 none :: lw_gt)) := gdS (lw_at 573 (by decide +kernel) rfl) es_String_checkIndex ei_String ec_String_checkIndex
abbrev c_String_coder : ByteArray := prog_19_method_152_code
def y_String_coder : MethodName := ⟨"java/lang/String", "coder", "()B"⟩
theorem d_String_coder_0 : decode c_String_coder 0 = .ok (.getstatic 38, 3) := by decide +kernel
theorem d_String_coder_3 : decode c_String_coder 3 = .ok (.ifCond .eq 10, 3) := by decide +kernel
theorem d_String_coder_6 : decode c_String_coder 6 = .ok (.aload_n 0, 1) := by decide +kernel
theorem d_String_coder_7 : decode c_String_coder 7 = .ok (.getfield 15, 3) := by decide +kernel
theorem d_String_coder_10 : decode c_String_coder 10 = .ok (.goto 4, 3) := by decide +kernel
theorem d_String_coder_13 : decode c_String_coder 13 = .ok (.iconst 1, 1) := by decide +kernel
theorem d_String_coder_14 : decode c_String_coder 14 = .ok (.ireturn, 1) := by decide +kernel
theorem ec_String_coder : Cond.code y_String_coder c_String_coder 1 (some .byte) ∈ lw_gt := lw_at 559 (by decide +kernel) rfl
theorem eh_String_coder : y_String_coder.cls ≠ "java/lang/invoke/MethodHandle" ∧ y_String_coder.cls ≠ "java/lang/invoke/VarHandle" ∧ (parseMethodDescriptor y_String_coder.desc).map (fun d => d.parameters.length) = some 0 := by decide +kernel
theorem eG_String_335 {cc : ByteArray} {nL : Nat} {y0 : MethodName} {r0 : Option FieldType} : GoodIn (.code y0 cc nL r0 :: lw_gt) (wsV "java/lang/String" 335 y_String_coder.cls y_String_coder (.code y_String_coder c_String_coder 1 (some .byte) :: lw_gt)) := gdV (lw_at 556 (by decide +kernel) rfl) (lw_at 557 (by decide +kernel) rfl) (lw_at 558 (by decide +kernel) rfl) ei_String ec_String_coder
abbrev c_String_isLatin1 : ByteArray := prog_19_method_154_code
def y_String_isLatin1 : MethodName := ⟨"java/lang/String", "isLatin1", "()Z"⟩
theorem d_String_isLatin1_0 : decode c_String_isLatin1 0 = .ok (.getstatic 38, 3) := by decide +kernel
theorem d_String_isLatin1_3 : decode c_String_isLatin1 3 = .ok (.ifCond .eq 14, 3) := by decide +kernel
theorem d_String_isLatin1_6 : decode c_String_isLatin1 6 = .ok (.aload_n 0, 1) := by decide +kernel
theorem d_String_isLatin1_7 : decode c_String_isLatin1 7 = .ok (.getfield 15, 3) := by decide +kernel
theorem d_String_isLatin1_10 : decode c_String_isLatin1 10 = .ok (.ifCond .ne 7, 3) := by decide +kernel
theorem d_String_isLatin1_13 : decode c_String_isLatin1 13 = .ok (.iconst 1, 1) := by decide +kernel
theorem d_String_isLatin1_14 : decode c_String_isLatin1 14 = .ok (.goto 4, 3) := by decide +kernel
theorem d_String_isLatin1_17 : decode c_String_isLatin1 17 = .ok (.iconst 0, 1) := by decide +kernel
theorem d_String_isLatin1_18 : decode c_String_isLatin1 18 = .ok (.ireturn, 1) := by decide +kernel
theorem ec_String_isLatin1 : Cond.code y_String_isLatin1 c_String_isLatin1 1 (some .boolean) ∈ lw_gt := lw_at 569 (by decide +kernel) rfl
theorem eh_String_isLatin1 : y_String_isLatin1.cls ≠ "java/lang/invoke/MethodHandle" ∧ y_String_isLatin1.cls ≠ "java/lang/invoke/VarHandle" ∧ (parseMethodDescriptor y_String_isLatin1.desc).map (fun d => d.parameters.length) = some 0 := by decide +kernel
theorem eG_String_492 {cc : ByteArray} {nL : Nat} {y0 : MethodName} {r0 : Option FieldType} : GoodIn (.code y0 cc nL r0 :: lw_gt) (wsV "java/lang/String" 492 y_String_isLatin1.cls y_String_isLatin1 (.code y_String_isLatin1 c_String_isLatin1 1 (some .boolean) :: lw_gt)) := gdV (lw_at 566 (by decide +kernel) rfl) (lw_at 567 (by decide +kernel) rfl) (lw_at 568 (by decide +kernel) rfl) ei_String ec_String_isLatin1
abbrev c_String_length : ByteArray := prog_19_method_54_code
def y_String_length : MethodName := ⟨"java/lang/String", "length", "()I"⟩
theorem d_String_length_0 : decode c_String_length 0 = .ok (.aload_n 0, 1) := by decide +kernel
theorem d_String_length_1 : decode c_String_length 1 = .ok (.getfield 9, 3) := by decide +kernel
theorem d_String_length_4 : decode c_String_length 4 = .ok (.arraylength, 1) := by decide +kernel
theorem d_String_length_5 : decode c_String_length 5 = .ok (.aload_n 0, 1) := by decide +kernel
theorem d_String_length_6 : decode c_String_length 6 = .ok (.invokevirtual 335, 3) := by decide +kernel
theorem d_String_length_9 : decode c_String_length 9 = .ok (.ishr, 1) := by decide +kernel
theorem d_String_length_10 : decode c_String_length 10 = .ok (.ireturn, 1) := by decide +kernel
theorem ec_String_length : Cond.code y_String_length c_String_length 1 (some .int) ∈ lw_gt := lw_at 555 (by decide +kernel) rfl
theorem eh_String_length : y_String_length.cls ≠ "java/lang/invoke/MethodHandle" ∧ y_String_length.cls ≠ "java/lang/invoke/VarHandle" ∧ (parseMethodDescriptor y_String_length.desc).map (fun d => d.parameters.length) = some 0 := by decide +kernel
theorem eG_Tokens_80 {cc : ByteArray} {nL : Nat} {y0 : MethodName} {r0 : Option FieldType} : GoodIn (.code y0 cc nL r0 :: lw_gt) (wsV "ErrataRow$Tokens" 80 y_String_length.cls y_String_length (.code y_String_length c_String_length 1 (some .int) :: lw_gt)) := gdV (lw_at 552 (by decide +kernel) rfl) (lw_at 553 (by decide +kernel) rfl) (lw_at 554 (by decide +kernel) rfl) ei_String ec_String_length
theorem eG_String_505 {cc : ByteArray} {nL : Nat} {y0 : MethodName} {r0 : Option FieldType} : GoodIn (.code y0 cc nL r0 :: lw_gt) (wsV "java/lang/String" 505 y_String_length.cls y_String_length (.code y_String_length c_String_length 1 (some .int) :: lw_gt)) := gdV (lw_at 616 (by decide +kernel) rfl) (lw_at 553 (by decide +kernel) rfl) (lw_at 554 (by decide +kernel) rfl) ei_String ec_String_length
abbrev c_StringLatin1_canEncode : ByteArray := prog_20_method_4_code
def y_StringLatin1_canEncode : MethodName := ⟨"java/lang/StringLatin1", "canEncode", "(I)Z"⟩
theorem d_StringLatin1_canEncode_0 : decode c_StringLatin1_canEncode 0 = .ok (.iload_n 0, 1) := by decide +kernel
theorem d_StringLatin1_canEncode_1 : decode c_StringLatin1_canEncode 1 = .ok (.ifCond .lt 14, 3) := by decide +kernel
theorem d_StringLatin1_canEncode_4 : decode c_StringLatin1_canEncode 4 = .ok (.iload_n 0, 1) := by decide +kernel
theorem d_StringLatin1_canEncode_5 : decode c_StringLatin1_canEncode 5 = .ok (.sipush 255, 3) := by decide +kernel
theorem d_StringLatin1_canEncode_8 : decode c_StringLatin1_canEncode 8 = .ok (.if_icmp .gt 7, 3) := by decide +kernel
theorem d_StringLatin1_canEncode_11 : decode c_StringLatin1_canEncode 11 = .ok (.iconst 1, 1) := by decide +kernel
theorem d_StringLatin1_canEncode_12 : decode c_StringLatin1_canEncode 12 = .ok (.goto 4, 3) := by decide +kernel
theorem d_StringLatin1_canEncode_15 : decode c_StringLatin1_canEncode 15 = .ok (.iconst 0, 1) := by decide +kernel
theorem d_StringLatin1_canEncode_16 : decode c_StringLatin1_canEncode 16 = .ok (.ireturn, 1) := by decide +kernel
theorem ec_StringLatin1_canEncode : Cond.code y_StringLatin1_canEncode c_StringLatin1_canEncode 1 (some .boolean) ∈ lw_gt := lw_at 622 (by decide +kernel) rfl
theorem eh_StringLatin1_canEncode : y_StringLatin1_canEncode.cls ≠ "java/lang/invoke/MethodHandle" ∧ y_StringLatin1_canEncode.cls ≠ "java/lang/invoke/VarHandle" ∧ (parseMethodDescriptor y_StringLatin1_canEncode.desc).map (fun d => d.parameters.length) = some 1 := by decide +kernel
theorem es_StringLatin1_canEncode : Cond.static y_StringLatin1_canEncode ∈ lw_gt := lw_at 621 (by decide +kernel) rfl
theorem eG_StringLatin1_88 {cc : ByteArray} {nL : Nat} {y0 : MethodName} {r0 : Option FieldType} : GoodIn (.code y0 cc nL r0 :: lw_gt) (va_wsS "java/lang/StringLatin1" 88 y_StringLatin1_canEncode (.code y_StringLatin1_canEncode c_StringLatin1_canEncode 1 (some .boolean) :: lw_gt)) := gdS (lw_at 620 (by decide +kernel) rfl) es_StringLatin1_canEncode ei_StringLatin1 ec_StringLatin1_canEncode
abbrev c_StringLatin1_charAt : ByteArray := prog_20_method_2_code
def y_StringLatin1_charAt : MethodName := ⟨"java/lang/StringLatin1", "charAt", "([BI)C"⟩
theorem d_StringLatin1_charAt_0 : decode c_StringLatin1_charAt 0 = .ok (.iload_n 1, 1) := by decide +kernel
theorem d_StringLatin1_charAt_1 : decode c_StringLatin1_charAt 1 = .ok (.aload_n 0, 1) := by decide +kernel
theorem d_StringLatin1_charAt_2 : decode c_StringLatin1_charAt 2 = .ok (.arraylength, 1) := by decide +kernel
theorem d_StringLatin1_charAt_3 : decode c_StringLatin1_charAt 3 = .ok (.invokestatic 9, 3) := by decide +kernel
theorem d_StringLatin1_charAt_6 : decode c_StringLatin1_charAt 6 = .ok (.aload_n 0, 1) := by decide +kernel
theorem d_StringLatin1_charAt_7 : decode c_StringLatin1_charAt 7 = .ok (.iload_n 1, 1) := by decide +kernel
theorem d_StringLatin1_charAt_8 : decode c_StringLatin1_charAt 8 = .ok (.baload, 1) := by decide +kernel
theorem d_StringLatin1_charAt_9 : decode c_StringLatin1_charAt 9 = .ok (.sipush 255, 3) := by decide +kernel
theorem d_StringLatin1_charAt_12 : decode c_StringLatin1_charAt 12 = .ok (.iand, 1) := by decide +kernel
theorem d_StringLatin1_charAt_13 : decode c_StringLatin1_charAt 13 = .ok (.i2c, 1) := by decide +kernel
theorem d_StringLatin1_charAt_14 : decode c_StringLatin1_charAt 14 = .ok (.ireturn, 1) := by decide +kernel
theorem ec_StringLatin1_charAt : Cond.code y_StringLatin1_charAt c_StringLatin1_charAt 2 (some .char) ∈ lw_gt := lw_at 572 (by decide +kernel) rfl
theorem eh_StringLatin1_charAt : y_StringLatin1_charAt.cls ≠ "java/lang/invoke/MethodHandle" ∧ y_StringLatin1_charAt.cls ≠ "java/lang/invoke/VarHandle" ∧ (parseMethodDescriptor y_StringLatin1_charAt.desc).map (fun d => d.parameters.length) = some 2 := by decide +kernel
theorem es_StringLatin1_charAt : Cond.static y_StringLatin1_charAt ∈ lw_gt := lw_at 571 (by decide +kernel) rfl
theorem eG_String_495 {cc : ByteArray} {nL : Nat} {y0 : MethodName} {r0 : Option FieldType} : GoodIn (.code y0 cc nL r0 :: lw_gt) (va_wsS "java/lang/String" 495 y_StringLatin1_charAt (.code y_StringLatin1_charAt c_StringLatin1_charAt 2 (some .char) :: lw_gt)) := gdS (lw_at 570 (by decide +kernel) rfl) es_StringLatin1_charAt ei_StringLatin1 ec_StringLatin1_charAt
abbrev c_StringLatin1_indexOfChar : ByteArray := prog_20_method_23_code
def y_StringLatin1_indexOfChar : MethodName := ⟨"java/lang/StringLatin1", "indexOfChar", "([BIII)I"⟩
theorem d_StringLatin1_indexOfChar_0 : decode c_StringLatin1_indexOfChar 0 = .ok (.iload_n 1, 1) := by decide +kernel
theorem d_StringLatin1_indexOfChar_1 : decode c_StringLatin1_indexOfChar 1 = .ok (.i2b, 1) := by decide +kernel
theorem d_StringLatin1_indexOfChar_2 : decode c_StringLatin1_indexOfChar 2 = .ok (.istore 4, 2) := by decide +kernel
theorem d_StringLatin1_indexOfChar_4 : decode c_StringLatin1_indexOfChar 4 = .ok (.iload_n 2, 1) := by decide +kernel
theorem d_StringLatin1_indexOfChar_5 : decode c_StringLatin1_indexOfChar 5 = .ok (.istore 5, 2) := by decide +kernel
theorem d_StringLatin1_indexOfChar_7 : decode c_StringLatin1_indexOfChar 7 = .ok (.iload 5, 2) := by decide +kernel
theorem d_StringLatin1_indexOfChar_9 : decode c_StringLatin1_indexOfChar 9 = .ok (.iload_n 3, 1) := by decide +kernel
theorem d_StringLatin1_indexOfChar_10 : decode c_StringLatin1_indexOfChar 10 = .ok (.if_icmp .ge 21, 3) := by decide +kernel
theorem d_StringLatin1_indexOfChar_13 : decode c_StringLatin1_indexOfChar 13 = .ok (.aload_n 0, 1) := by decide +kernel
theorem d_StringLatin1_indexOfChar_14 : decode c_StringLatin1_indexOfChar 14 = .ok (.iload 5, 2) := by decide +kernel
theorem d_StringLatin1_indexOfChar_16 : decode c_StringLatin1_indexOfChar 16 = .ok (.baload, 1) := by decide +kernel
theorem d_StringLatin1_indexOfChar_17 : decode c_StringLatin1_indexOfChar 17 = .ok (.iload 4, 2) := by decide +kernel
theorem d_StringLatin1_indexOfChar_19 : decode c_StringLatin1_indexOfChar 19 = .ok (.if_icmp .ne 6, 3) := by decide +kernel
theorem d_StringLatin1_indexOfChar_22 : decode c_StringLatin1_indexOfChar 22 = .ok (.iload 5, 2) := by decide +kernel
theorem d_StringLatin1_indexOfChar_24 : decode c_StringLatin1_indexOfChar 24 = .ok (.ireturn, 1) := by decide +kernel
theorem d_StringLatin1_indexOfChar_25 : decode c_StringLatin1_indexOfChar 25 = .ok (.iinc 5 1, 3) := by decide +kernel
theorem d_StringLatin1_indexOfChar_28 : decode c_StringLatin1_indexOfChar 28 = .ok (.goto (-21), 3) := by decide +kernel
theorem d_StringLatin1_indexOfChar_31 : decode c_StringLatin1_indexOfChar 31 = .ok (.iconst (-1), 1) := by decide +kernel
theorem d_StringLatin1_indexOfChar_32 : decode c_StringLatin1_indexOfChar 32 = .ok (.ireturn, 1) := by decide +kernel
theorem ec_StringLatin1_indexOfChar : Cond.code y_StringLatin1_indexOfChar c_StringLatin1_indexOfChar 6 (some .int) ∈ lw_gt := lw_at 631 (by decide +kernel) rfl
theorem eh_StringLatin1_indexOfChar : y_StringLatin1_indexOfChar.cls ≠ "java/lang/invoke/MethodHandle" ∧ y_StringLatin1_indexOfChar.cls ≠ "java/lang/invoke/VarHandle" ∧ (parseMethodDescriptor y_StringLatin1_indexOfChar.desc).map (fun d => d.parameters.length) = some 4 := by decide +kernel
theorem es_StringLatin1_indexOfChar : Cond.static y_StringLatin1_indexOfChar ∈ lw_gt := lw_at 630 (by decide +kernel) rfl
theorem eG_StringLatin1_95 {cc : ByteArray} {nL : Nat} {y0 : MethodName} {r0 : Option FieldType} : GoodIn (.code y0 cc nL r0 :: lw_gt) (va_wsS "java/lang/StringLatin1" 95 y_StringLatin1_indexOfChar (.code y_StringLatin1_indexOfChar c_StringLatin1_indexOfChar 6 (some .int) :: lw_gt)) := gdS (lw_at 629 (by decide +kernel) rfl) es_StringLatin1_indexOfChar ei_StringLatin1 ec_StringLatin1_indexOfChar
abbrev c_StringLatin1_indexOf : ByteArray := prog_20_method_22_code
def y_StringLatin1_indexOf : MethodName := ⟨"java/lang/StringLatin1", "indexOf", "([BIII)I"⟩
theorem d_StringLatin1_indexOf_0 : decode c_StringLatin1_indexOf 0 = .ok (.iload_n 1, 1) := by decide +kernel
theorem d_StringLatin1_indexOf_1 : decode c_StringLatin1_indexOf 1 = .ok (.invokestatic 88, 3) := by decide +kernel
theorem d_StringLatin1_indexOf_4 : decode c_StringLatin1_indexOf 4 = .ok (.ifCond .ne 5, 3) := by decide +kernel
theorem d_StringLatin1_indexOf_7 : decode c_StringLatin1_indexOf 7 = .ok (.iconst (-1), 1) := by decide +kernel
theorem d_StringLatin1_indexOf_8 : decode c_StringLatin1_indexOf 8 = .ok (.ireturn, 1) := by decide +kernel
theorem d_StringLatin1_indexOf_9 : decode c_StringLatin1_indexOf 9 = .ok (.iload_n 2, 1) := by decide +kernel
theorem d_StringLatin1_indexOf_10 : decode c_StringLatin1_indexOf 10 = .ok (.iconst 0, 1) := by decide +kernel
theorem d_StringLatin1_indexOf_11 : decode c_StringLatin1_indexOf 11 = .ok (.invokestatic 92, 3) := by decide +kernel
theorem d_StringLatin1_indexOf_14 : decode c_StringLatin1_indexOf 14 = .ok (.istore_n 2, 1) := by decide +kernel
theorem d_StringLatin1_indexOf_15 : decode c_StringLatin1_indexOf 15 = .ok (.iload_n 3, 1) := by decide +kernel
theorem d_StringLatin1_indexOf_16 : decode c_StringLatin1_indexOf 16 = .ok (.aload_n 0, 1) := by decide +kernel
theorem d_StringLatin1_indexOf_17 : decode c_StringLatin1_indexOf 17 = .ok (.arraylength, 1) := by decide +kernel
theorem d_StringLatin1_indexOf_18 : decode c_StringLatin1_indexOf 18 = .ok (.invokestatic 38, 3) := by decide +kernel
theorem d_StringLatin1_indexOf_21 : decode c_StringLatin1_indexOf 21 = .ok (.istore_n 3, 1) := by decide +kernel
theorem d_StringLatin1_indexOf_22 : decode c_StringLatin1_indexOf 22 = .ok (.iload_n 2, 1) := by decide +kernel
theorem d_StringLatin1_indexOf_23 : decode c_StringLatin1_indexOf 23 = .ok (.iload_n 3, 1) := by decide +kernel
theorem d_StringLatin1_indexOf_24 : decode c_StringLatin1_indexOf 24 = .ok (.if_icmp .lt 5, 3) := by decide +kernel
theorem d_StringLatin1_indexOf_27 : decode c_StringLatin1_indexOf 27 = .ok (.iconst (-1), 1) := by decide +kernel
theorem d_StringLatin1_indexOf_28 : decode c_StringLatin1_indexOf 28 = .ok (.ireturn, 1) := by decide +kernel
theorem d_StringLatin1_indexOf_29 : decode c_StringLatin1_indexOf 29 = .ok (.aload_n 0, 1) := by decide +kernel
theorem d_StringLatin1_indexOf_30 : decode c_StringLatin1_indexOf 30 = .ok (.iload_n 1, 1) := by decide +kernel
theorem d_StringLatin1_indexOf_31 : decode c_StringLatin1_indexOf 31 = .ok (.iload_n 2, 1) := by decide +kernel
theorem d_StringLatin1_indexOf_32 : decode c_StringLatin1_indexOf 32 = .ok (.iload_n 3, 1) := by decide +kernel
theorem d_StringLatin1_indexOf_33 : decode c_StringLatin1_indexOf 33 = .ok (.invokestatic 95, 3) := by decide +kernel
theorem d_StringLatin1_indexOf_36 : decode c_StringLatin1_indexOf 36 = .ok (.ireturn, 1) := by decide +kernel
theorem ec_StringLatin1_indexOf : Cond.code y_StringLatin1_indexOf c_StringLatin1_indexOf 4 (some .int) ∈ lw_gt := lw_at 619 (by decide +kernel) rfl
theorem eh_StringLatin1_indexOf : y_StringLatin1_indexOf.cls ≠ "java/lang/invoke/MethodHandle" ∧ y_StringLatin1_indexOf.cls ≠ "java/lang/invoke/VarHandle" ∧ (parseMethodDescriptor y_StringLatin1_indexOf.desc).map (fun d => d.parameters.length) = some 4 := by decide +kernel
theorem es_StringLatin1_indexOf : Cond.static y_StringLatin1_indexOf ∈ lw_gt := lw_at 618 (by decide +kernel) rfl
theorem eG_String_637 {cc : ByteArray} {nL : Nat} {y0 : MethodName} {r0 : Option FieldType} : GoodIn (.code y0 cc nL r0 :: lw_gt) (va_wsS "java/lang/String" 637 y_StringLatin1_indexOf (.code y_StringLatin1_indexOf c_StringLatin1_indexOf 4 (some .int) :: lw_gt)) := gdS (lw_at 617 (by decide +kernel) rfl) es_StringLatin1_indexOf ei_StringLatin1 ec_StringLatin1_indexOf
abbrev c_String_charAt : ByteArray := prog_19_method_56_code
def y_String_charAt : MethodName := ⟨"java/lang/String", "charAt", "(I)C"⟩
theorem d_String_charAt_0 : decode c_String_charAt 0 = .ok (.aload_n 0, 1) := by decide +kernel
theorem d_String_charAt_1 : decode c_String_charAt 1 = .ok (.invokevirtual 492, 3) := by decide +kernel
theorem d_String_charAt_4 : decode c_String_charAt 4 = .ok (.ifCond .eq 12, 3) := by decide +kernel
theorem d_String_charAt_7 : decode c_String_charAt 7 = .ok (.aload_n 0, 1) := by decide +kernel
theorem d_String_charAt_8 : decode c_String_charAt 8 = .ok (.getfield 9, 3) := by decide +kernel
theorem d_String_charAt_11 : decode c_String_charAt 11 = .ok (.iload_n 1, 1) := by decide +kernel
theorem d_String_charAt_12 : decode c_String_charAt 12 = .ok (.invokestatic 495, 3) := by decide +kernel
theorem d_String_charAt_15 : decode c_String_charAt 15 = .ok (.ireturn, 1) := by decide +kernel
theorem d_String_charAt_16 : decode c_String_charAt 16 = .ok (.aload_n 0, 1) := by decide +kernel
theorem d_String_charAt_17 : decode c_String_charAt 17 = .ok (.getfield 9, 3) := by decide +kernel
theorem d_String_charAt_20 : decode c_String_charAt 20 = .ok (.iload_n 1, 1) := by decide +kernel
theorem d_String_charAt_21 : decode c_String_charAt 21 = .ok (.invokestatic 498, 3) := by decide +kernel
theorem d_String_charAt_24 : decode c_String_charAt 24 = .ok (.ireturn, 1) := by decide +kernel
theorem ec_String_charAt : Cond.code y_String_charAt c_String_charAt 2 (some .char) ∈ lw_gt := lw_at 565 (by decide +kernel) rfl
theorem eh_String_charAt : y_String_charAt.cls ≠ "java/lang/invoke/MethodHandle" ∧ y_String_charAt.cls ≠ "java/lang/invoke/VarHandle" ∧ (parseMethodDescriptor y_String_charAt.desc).map (fun d => d.parameters.length) = some 1 := by decide +kernel
theorem eG_Tokens_84 {cc : ByteArray} {nL : Nat} {y0 : MethodName} {r0 : Option FieldType} : GoodIn (.code y0 cc nL r0 :: lw_gt) (wsV "ErrataRow$Tokens" 84 y_String_charAt.cls y_String_charAt (.code y_String_charAt c_String_charAt 2 (some .char) :: lw_gt)) := gdV (lw_at 562 (by decide +kernel) rfl) (lw_at 563 (by decide +kernel) rfl) (lw_at 564 (by decide +kernel) rfl) ei_String ec_String_charAt
abbrev c_String_indexOf2 : ByteArray := prog_19_method_80_code
def y_String_indexOf2 : MethodName := ⟨"java/lang/String", "indexOf", "(II)I"⟩
theorem d_String_indexOf2_0 : decode c_String_indexOf2 0 = .ok (.aload_n 0, 1) := by decide +kernel
theorem d_String_indexOf2_1 : decode c_String_indexOf2 1 = .ok (.invokevirtual 492, 3) := by decide +kernel
theorem d_String_indexOf2_4 : decode c_String_indexOf2 4 = .ok (.ifCond .eq 19, 3) := by decide +kernel
theorem d_String_indexOf2_7 : decode c_String_indexOf2 7 = .ok (.aload_n 0, 1) := by decide +kernel
theorem d_String_indexOf2_8 : decode c_String_indexOf2 8 = .ok (.getfield 9, 3) := by decide +kernel
theorem d_String_indexOf2_11 : decode c_String_indexOf2 11 = .ok (.iload_n 1, 1) := by decide +kernel
theorem d_String_indexOf2_12 : decode c_String_indexOf2 12 = .ok (.iload_n 2, 1) := by decide +kernel
theorem d_String_indexOf2_13 : decode c_String_indexOf2 13 = .ok (.aload_n 0, 1) := by decide +kernel
theorem d_String_indexOf2_14 : decode c_String_indexOf2 14 = .ok (.invokevirtual 505, 3) := by decide +kernel
theorem d_String_indexOf2_17 : decode c_String_indexOf2 17 = .ok (.invokestatic 637, 3) := by decide +kernel
theorem d_String_indexOf2_20 : decode c_String_indexOf2 20 = .ok (.goto 16, 3) := by decide +kernel
theorem d_String_indexOf2_23 : decode c_String_indexOf2 23 = .ok (.aload_n 0, 1) := by decide +kernel
theorem d_String_indexOf2_24 : decode c_String_indexOf2 24 = .ok (.getfield 9, 3) := by decide +kernel
theorem d_String_indexOf2_27 : decode c_String_indexOf2 27 = .ok (.iload_n 1, 1) := by decide +kernel
theorem d_String_indexOf2_28 : decode c_String_indexOf2 28 = .ok (.iload_n 2, 1) := by decide +kernel
theorem d_String_indexOf2_29 : decode c_String_indexOf2 29 = .ok (.aload_n 0, 1) := by decide +kernel
theorem d_String_indexOf2_30 : decode c_String_indexOf2 30 = .ok (.invokevirtual 505, 3) := by decide +kernel
theorem d_String_indexOf2_33 : decode c_String_indexOf2 33 = .ok (.invokestatic 640, 3) := by decide +kernel
theorem d_String_indexOf2_36 : decode c_String_indexOf2 36 = .ok (.ireturn, 1) := by decide +kernel
theorem ec_String_indexOf2 : Cond.code y_String_indexOf2 c_String_indexOf2 3 (some .int) ∈ lw_gt := lw_at 615 (by decide +kernel) rfl
theorem eh_String_indexOf2 : y_String_indexOf2.cls ≠ "java/lang/invoke/MethodHandle" ∧ y_String_indexOf2.cls ≠ "java/lang/invoke/VarHandle" ∧ (parseMethodDescriptor y_String_indexOf2.desc).map (fun d => d.parameters.length) = some 2 := by decide +kernel
theorem eG_String_633 {cc : ByteArray} {nL : Nat} {y0 : MethodName} {r0 : Option FieldType} : GoodIn (.code y0 cc nL r0 :: lw_gt) (wsV "java/lang/String" 633 y_String_indexOf2.cls y_String_indexOf2 (.code y_String_indexOf2 c_String_indexOf2 3 (some .int) :: lw_gt)) := gdV (lw_at 612 (by decide +kernel) rfl) (lw_at 613 (by decide +kernel) rfl) (lw_at 614 (by decide +kernel) rfl) ei_String ec_String_indexOf2
abbrev c_String_indexOf1 : ByteArray := prog_19_method_79_code
def y_String_indexOf1 : MethodName := ⟨"java/lang/String", "indexOf", "(I)I"⟩
theorem d_String_indexOf1_0 : decode c_String_indexOf1 0 = .ok (.aload_n 0, 1) := by decide +kernel
theorem d_String_indexOf1_1 : decode c_String_indexOf1 1 = .ok (.iload_n 1, 1) := by decide +kernel
theorem d_String_indexOf1_2 : decode c_String_indexOf1 2 = .ok (.iconst 0, 1) := by decide +kernel
theorem d_String_indexOf1_3 : decode c_String_indexOf1 3 = .ok (.invokevirtual 633, 3) := by decide +kernel
theorem d_String_indexOf1_6 : decode c_String_indexOf1 6 = .ok (.ireturn, 1) := by decide +kernel
theorem ec_String_indexOf1 : Cond.code y_String_indexOf1 c_String_indexOf1 2 (some .int) ∈ lw_gt := lw_at 611 (by decide +kernel) rfl
theorem eh_String_indexOf1 : y_String_indexOf1.cls ≠ "java/lang/invoke/MethodHandle" ∧ y_String_indexOf1.cls ≠ "java/lang/invoke/VarHandle" ∧ (parseMethodDescriptor y_String_indexOf1.desc).map (fun d => d.parameters.length) = some 1 := by decide +kernel
theorem eG_Tokens_72 {cc : ByteArray} {nL : Nat} {y0 : MethodName} {r0 : Option FieldType} : GoodIn (.code y0 cc nL r0 :: lw_gt) (wsV "ErrataRow$Tokens" 72 y_String_indexOf1.cls y_String_indexOf1 (.code y_String_indexOf1 c_String_indexOf1 2 (some .int) :: lw_gt)) := gdV (lw_at 608 (by decide +kernel) rfl) (lw_at 609 (by decide +kernel) rfl) (lw_at 610 (by decide +kernel) rfl) ei_String ec_String_indexOf1
