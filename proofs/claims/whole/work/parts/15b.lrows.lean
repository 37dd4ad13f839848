theorem P_comm {D : va_G} {cl : List vw_C} {a b : va_W} {H : Heap} (h : va_P D cl (a ++ b) H) : va_P D cl (b ++ a) H := va_P.swap (a := []) (b := a) (c := b) h
theorem D_comm {A : Nat → Prop} {a b : va_W} (h : va_D A (a ++ b)) : va_D A (b ++ a) := va_D.swap (a := []) (b := a) (c := b) h
theorem sp_app2 (w v : va_W) : SP (w ++ v) v w := ⟨(List.range v.length).map (fun i => w.length + i), List.range w.length, sp_rng2 w v, sp_rng w v, sp_ndr _ _, sp_nd _, fun i h hc => by
  obtain ⟨j, -, rfl⟩ := List.mem_map.mp hc
  have := List.mem_range.mp h
  omega⟩
theorem gL_gt {w : Cond} (h : w ∈ lw_gt) : w ∈ lw_tbl := (List.mem_filter.mp h).1
theorem gL {ws : List Cond} (h : ∀ w ∈ ws, w ∈ lw_gt) : GoodIn lw_tbl ws := fun w hw => ⟨gL_gt (h w hw), lw_good (h w hw)⟩
theorem gLV {y : MethodName} {bytes : ByteArray} {maxL index : Nat} {ret : Option FieldType} {own C : String} (h1 : Cond.methodLink own index y ∈ lw_gt) (h2 : Cond.instanceMethod y ∈ lw_gt) (h3 : Cond.selects C y y ∈ lw_gt) (h4 : Cond.initialized C ∈ lw_gt) (h5 : Cond.code y bytes maxL ret ∈ lw_gt) : GoodIn lw_tbl (wsV own index C y (.code y bytes maxL ret :: lw_gt)) := gL (fun w hw => by
  rcases List.mem_append.mp hw with h | h
  · exact (List.forall_mem_cons.mpr ⟨h1, List.forall_mem_cons.mpr ⟨h2, List.forall_mem_cons.mpr ⟨h3, List.forall_mem_cons.mpr ⟨h4, fun _ h => absurd h List.not_mem_nil⟩⟩⟩⟩ : ∀ w ∈ ([.methodLink own index y, .instanceMethod y, .selects C y y, .initialized C] : List Cond), w ∈ lw_gt) w h
  · rcases List.mem_cons.mp h with h | h
    · rw [h]; exact h5
    · exact h)
theorem rm_law {j mc ms maxL : Nat} (h : j ≤ 100) (hm : maxL ≤ 21) : (rmA j mc ms).frames + 1 ≤ room_1.frames ∧ 8 + (maxL + 11) + (rmA j mc ms).locals ≤ room_1.locals := by
  simp only [rmA, room_1]
  omega
theorem rm_lawM {j maxL : Nat} (h : j ≤ 100) (hm : maxL ≤ 21) : (rmL j).frames + 1 ≤ room_1.frames ∧ 8 + (maxL + 11) + (rmL j).locals ≤ room_1.locals := by
  simp only [rmL, room_1]
  omega
abbrev KL (p : Program) (s : State) (m : MethodId) (b : Nat) (c : Code) (D : va_G) (θ : Tc) (η : Th) (A : Nat → Prop) : Prop := KK p s m #[Value.ref b] c code 4 R_law lw_tbl D vwCl (tC θ ++ tM η) A
abbrev JL (p : Program) (l : Launch) (e : Env) (s : State) (m : MethodId) (b : Nat) (below : List Frame) (meth : Method) (c : Code) (D : va_G) (θ : Tc) (η : Th) (A : Nat → Prop) (ce sl : Nat) (κ : Cz) (μ : Mz) (lv : List (Nat × Value)) (st : List Value) (pc : Nat) : Prop := JJ p l e room_1 s m #[Value.ref b] below meth c D vwCl A 4 ce sl (lw_Z below #[Value.ref b] s) (wE θ κ ++ wM η μ) lv st pc
section LRows
variable {p : Program} {l : Launch} {e : Env} {s : State} {m : MethodId} {b L : Nat} {xs : Nat → Int32} {below : List Frame} {meth : Method} {c : Code} {D : va_G} {θ : Tc} {η : Th} {ad : Ad} {A : Nat → Prop} {ce sl : Nat} {κ : Cz} {μ : Mz} {lv : List (Nat × Value)} {st : List Value} {pc : Nat}
theorem l_slen (K : KL p s m b c D θ η A) (hX : va_X b L xs s s.heap) (hbl : b < s.heap.size) (hbA : ¬ A b) (hdg : decode code pc = .ok (.arraylength, 1)) (kk : JL p l e s m b below meth c D θ η A ce sl κ μ lv (.int (nI L) :: st) (pc + 1)) : JL p l e s m b below meth c D θ η A ce sl κ μ lv (.ref b :: st) pc := fun H locs ls hP hD hS h => va_slen K.1 K.2.1 hX hbl hbA hS hdg (kk H locs ls hP hD hS h)
theorem l_sld (K : KL p s m b c D θ η A) (hX : va_X b L xs s s.heap) (hbl : b < s.heap.size) (hbA : ¬ A b) {i : Int32} (hin : vp_in i L) (hdg : decode code pc = .ok (.iaload, 1)) (kk : JL p l e s m b below meth c D θ η A ce sl κ μ lv (.int (xs i.toNatClampNeg) :: st) (pc + 1)) : JL p l e s m b below meth c D θ η A ce sl κ μ lv (.int i :: .ref b :: st) pc := fun H locs ls hP hD hS h => va_sld K.1 K.2.1 hX hbl hbA hS hin hdg (kk H locs ls hP hD hS h)
theorem l_widen {a d : Nat} (h1 : ce ≤ a) (h2 : sl ≤ d) (kk : JL p l e s m b below meth c D θ η A a d κ μ lv st pc) : JL p l e s m b below meth c D θ η A ce sl κ μ lv st pc := fun H locs ls hP hD hS h => W.widen h1 h2 (kk H locs ls hP hD hS h)
theorem lcallF (K : KL p s m b c D θ η A) (hN : NX s) (hSC : SC ad A s s.heap) {y : MethodName} {bytes : ByteArray} {maxL j index n x0 : Nat} {As st0 : List Value} {r : Int32} {κ1 : Cz} (hM : CEi l D θ y bytes maxL (some .int) j 0 0 (.ref x0 :: As) κ (r, κ1)) (hG : GoodIn lw_tbl (wsV R_law index y.cls y (.code y bytes maxL (some .int) :: lw_gt))) (hd : y.cls ≠ "java/lang/invoke/MethodHandle" ∧ y.cls ≠ "java/lang/invoke/VarHandle" ∧ (parseMethodDescriptor y.desc).map (fun d => d.parameters.length) = some n) (hm : maxL ≤ 21) (hj : j ≤ 100) (hn : As.length = n) (hb : isK κ x0 11 = true) (hcy : y.cls = RX11) (hst : (st.map fun v => v.category).sum ≤ 8) (hs0 : st0 = As.reverse ++ .ref x0 :: st) (hdg : decode code pc = .ok (.invokevirtual index, 3)) (hf : ce + 0 ≤ room_1.cells ∧ sl + 0 ≤ room_1.slots) (kk : JL p l e s m b below meth c D θ η A ce sl κ1 μ lv (.int r :: st) (pc + 3)) : JL p l e s m b below meth c D θ η A ce sl κ μ lv st0 pc := by
  intro H locs ls hP hD hS h
  subst hs0
  obtain ⟨hx, hb9, hml, hown, hts, hK, hA⟩ := K
  have hsp := sp_app (wE θ κ) (wM η μ)
  have hFc := hsp.F hD hS hA
  have hKc := hK.sub (tys' := tC θ) [0, 1, 2, 3, 4] rfl
  obtain ⟨q0, he⟩ := wE_get θ (isK_m hb)
  rw [cE_o θ (isK_k hb) (by decide)] at he
  refine va_calli (va_runV (As := As) (rest := st) ⟨hx, hb9, hml, hown, hts⟩ (hM H.size) (cwV n hts hG rfl rfl rfl ⟨rfl, hd⟩ (rm_law hj hm)) ⟨PE_blind, by rw [hcy]; exact va_recv (q := (RX11, TX11, 16)) hKc (hsp.P hP) rfl he, fun U hU hW => ⟨rfl, by rw [hU], by rw [hU]; exact hsp.P hP, va_K.moved hW.alike hKc, (hsp.D hD).weaken (fun _ _ _ _ => trivial), NX.warm hW hN⟩⟩ rfl hn h.1 rfl (lv_room hst) hdg hf) hS (fun q _ h => hFc q h) hFc (fun r1 u t H1 locs1 ht hvm hw hB hz1 hk1 hS1 => ?_)
  obtain ⟨hP1, hK1, hD1⟩ := hB
  rw [ht] at hP1
  obtain ⟨hP2, hD2⟩ := hsp.J hP hD hk1 hFc hP1 hD1
  obtain ⟨rfl, rfl⟩ := hw
  exact kk H1 locs1 ls (P_comm hP2) (D_comm hD2) hS1 h
theorem lcallS (K : KL p s m b c D θ η A) (hN : NX s) (hSC : SC ad A s s.heap) {y : MethodName} {bytes : ByteArray} {maxL j index n x0 : Nat} {As st0 : List Value} {r : Int32} {κ1 : Cz} (hM : CSEi l D θ ad y bytes maxL (some .int) j (.ref x0 :: As) κ (r, κ1)) (hG : GoodIn lw_tbl (wsV R_law index y.cls y (.code y bytes maxL (some .int) :: lw_gt))) (hd : y.cls ≠ "java/lang/invoke/MethodHandle" ∧ y.cls ≠ "java/lang/invoke/VarHandle" ∧ (parseMethodDescriptor y.desc).map (fun d => d.parameters.length) = some n) (hm : maxL ≤ 21) (hj : j ≤ 100) (hn : As.length = n) (hb : isK κ x0 11 = true) (hcy : y.cls = RX11) (hst : (st.map fun v => v.category).sum ≤ 8) (hs0 : st0 = As.reverse ++ .ref x0 :: st) (hdg : decode code pc = .ok (.invokevirtual index, 3)) (hf : ce + 0 ≤ room_1.cells ∧ sl + 0 ≤ room_1.slots) (kk : JL p l e s m b below meth c D θ η A ce sl κ1 μ lv (.int r :: st) (pc + 3)) : JL p l e s m b below meth c D θ η A ce sl κ μ lv st0 pc := by
  intro H locs ls hP hD hS h
  subst hs0
  obtain ⟨hx, hb9, hml, hown, hts, hK, hA⟩ := K
  have hsp := sp_app (wE θ κ) (wM η μ)
  have hFc := hsp.F hD hS hA
  have hKc := hK.sub (tys' := tC θ) [0, 1, 2, 3, 4] rfl
  obtain ⟨q0, he⟩ := wE_get θ (isK_m hb)
  rw [cE_o θ (isK_k hb) (by decide)] at he
  refine va_calli (va_runV (As := As) (rest := st) ⟨hx, hb9, hml, hown, hts⟩ (hM H.size) (cwV n hts hG rfl rfl rfl ⟨rfl, hd⟩ (rm_law hj hm)) ⟨PS_blind, by rw [hcy]; exact va_recv (q := (RX11, TX11, 16)) hKc (hsp.P hP) rfl he, fun U hU hW => ⟨rfl, by rw [hU], by rw [hU]; exact hsp.P hP, va_K.moved hW.alike hKc, (hsp.D hD).weaken (fun _ _ _ _ => trivial), NX.warm hW hN, by rw [hU]; exact hSC.go hS.2.1 hFc hW⟩⟩ rfl hn h.1 rfl (lv_room hst) hdg hf) hS (fun q _ h => hFc q h) hFc (fun r1 u t H1 locs1 ht hvm hw hB hz1 hk1 hS1 => ?_)
  obtain ⟨hP1, hK1, hD1⟩ := hB
  rw [ht] at hP1
  obtain ⟨hP2, hD2⟩ := hsp.J hP hD hk1 hFc hP1 hD1
  obtain ⟨rfl, rfl⟩ := hw
  exact kk H1 locs1 ls (P_comm hP2) (D_comm hD2) hS1 h
theorem lcallW (K : KL p s m b c D θ η A) (hN : NX s) (hSC : SC ad A s s.heap) {y : MethodName} {bytes : ByteArray} {maxL j index n x0 : Nat} {As st0 : List Value} {mc ms : Nat} {post : Int32 → Cz → Prop} (hM : CWi l D θ y bytes maxL (some .int) j mc ms (.ref x0 :: As) κ post) (hG : GoodIn lw_tbl (wsV R_law index y.cls y (.code y bytes maxL (some .int) :: lw_gt))) (hd : y.cls ≠ "java/lang/invoke/MethodHandle" ∧ y.cls ≠ "java/lang/invoke/VarHandle" ∧ (parseMethodDescriptor y.desc).map (fun d => d.parameters.length) = some n) (hm : maxL ≤ 21) (hj : j ≤ 100) (hn : As.length = n) (hb : isK κ x0 11 = true) (hcy : y.cls = RX11) (hst : (st.map fun v => v.category).sum ≤ 8) (hs0 : st0 = As.reverse ++ .ref x0 :: st) (hdg : decode code pc = .ok (.invokevirtual index, 3)) (hf : ce + mc ≤ room_1.cells ∧ sl + ms ≤ room_1.slots) (kk : ∀ (r : Int32) (κ1 : Cz), post r κ1 → JL p l e s m b below meth c D θ η A (ce + mc) (sl + ms) κ1 μ lv (.int r :: st) (pc + 3)) : JL p l e s m b below meth c D θ η A ce sl κ μ lv st0 pc := by
  intro H locs ls hP hD hS h
  subst hs0
  obtain ⟨hx, hb9, hml, hown, hts, hK, hA⟩ := K
  have hsp := sp_app (wE θ κ) (wM η μ)
  have hFc := hsp.F hD hS hA
  have hKc := hK.sub (tys' := tC θ) [0, 1, 2, 3, 4] rfl
  obtain ⟨q0, he⟩ := wE_get θ (isK_m hb)
  rw [cE_o θ (isK_k hb) (by decide)] at he
  refine va_calli (va_runV (As := As) (rest := st) ⟨hx, hb9, hml, hown, hts⟩ (hM H.size) (cwV n hts hG rfl rfl rfl ⟨rfl, hd⟩ (rm_law hj hm)) ⟨PE_blind, by rw [hcy]; exact va_recv (q := (RX11, TX11, 16)) hKc (hsp.P hP) rfl he, fun U hU hW => ⟨rfl, by rw [hU], by rw [hU]; exact hsp.P hP, va_K.moved hW.alike hKc, (hsp.D hD).weaken (fun _ _ _ _ => trivial), NX.warm hW hN⟩⟩ rfl hn h.1 rfl (lv_room hst) hdg hf) hS (fun q _ h => hFc q h) hFc (fun r1 u t H1 locs1 ht hvm hw hB hz1 hk1 hS1 => ?_)
  obtain ⟨hP1, hK1, hD1⟩ := hB
  rw [ht] at hP1
  obtain ⟨hP2, hD2⟩ := hsp.J hP hD hk1 hFc hP1 hD1
  exact kk r1 u hw H1 locs1 ls (P_comm hP2) (D_comm hD2) hS1 h
theorem lcallX (K : KL p s m b c D θ η A) (hN : NX s) (hSC : SC ad A s s.heap) {y : MethodName} {bytes : ByteArray} {maxL j index n x0 : Nat} {As st0 : List Value} {mc ms : Nat} {post : Int32 → Cz → Prop} (hM : CWSi l D θ ad y bytes maxL (some .int) j mc ms (.ref x0 :: As) κ post) (hG : GoodIn lw_tbl (wsV R_law index y.cls y (.code y bytes maxL (some .int) :: lw_gt))) (hd : y.cls ≠ "java/lang/invoke/MethodHandle" ∧ y.cls ≠ "java/lang/invoke/VarHandle" ∧ (parseMethodDescriptor y.desc).map (fun d => d.parameters.length) = some n) (hm : maxL ≤ 21) (hj : j ≤ 100) (hn : As.length = n) (hb : isK κ x0 11 = true) (hcy : y.cls = RX11) (hst : (st.map fun v => v.category).sum ≤ 8) (hs0 : st0 = As.reverse ++ .ref x0 :: st) (hdg : decode code pc = .ok (.invokevirtual index, 3)) (hf : ce + mc ≤ room_1.cells ∧ sl + ms ≤ room_1.slots) (kk : ∀ (r : Int32) (κ1 : Cz), post r κ1 → JL p l e s m b below meth c D θ η A (ce + mc) (sl + ms) κ1 μ lv (.int r :: st) (pc + 3)) : JL p l e s m b below meth c D θ η A ce sl κ μ lv st0 pc := by
  intro H locs ls hP hD hS h
  subst hs0
  obtain ⟨hx, hb9, hml, hown, hts, hK, hA⟩ := K
  have hsp := sp_app (wE θ κ) (wM η μ)
  have hFc := hsp.F hD hS hA
  have hKc := hK.sub (tys' := tC θ) [0, 1, 2, 3, 4] rfl
  obtain ⟨q0, he⟩ := wE_get θ (isK_m hb)
  rw [cE_o θ (isK_k hb) (by decide)] at he
  refine va_calli (va_runV (As := As) (rest := st) ⟨hx, hb9, hml, hown, hts⟩ (hM H.size) (cwV n hts hG rfl rfl rfl ⟨rfl, hd⟩ (rm_law hj hm)) ⟨PS_blind, by rw [hcy]; exact va_recv (q := (RX11, TX11, 16)) hKc (hsp.P hP) rfl he, fun U hU hW => ⟨rfl, by rw [hU], by rw [hU]; exact hsp.P hP, va_K.moved hW.alike hKc, (hsp.D hD).weaken (fun _ _ _ _ => trivial), NX.warm hW hN, by rw [hU]; exact hSC.go hS.2.1 hFc hW⟩⟩ rfl hn h.1 rfl (lv_room hst) hdg hf) hS (fun q _ h => hFc q h) hFc (fun r1 u t H1 locs1 ht hvm hw hB hz1 hk1 hS1 => ?_)
  obtain ⟨hP1, hK1, hD1⟩ := hB
  rw [ht] at hP1
  obtain ⟨hP2, hD2⟩ := hsp.J hP hD hk1 hFc hP1 hD1
  exact kk r1 u hw H1 locs1 ls (P_comm hP2) (D_comm hD2) hS1 h
theorem lcallM (K : KL p s m b c D θ η A) {y : MethodName} {bytes : ByteArray} {maxL j index n : Nat} {As st0 : List Value} {r : Int32} {μ1 : Mz} (hM : CMi l D η y bytes maxL (some .int) j As μ (r, μ1)) (hG : GoodIn lw_tbl (wsV R_law index y.cls y (.code y bytes maxL (some .int) :: lw_gt))) (hd : y.cls ≠ "java/lang/invoke/MethodHandle" ∧ y.cls ≠ "java/lang/invoke/VarHandle" ∧ (parseMethodDescriptor y.desc).map (fun d => d.parameters.length) = some n) (hm : maxL ≤ 21) (hj : j ≤ 100) (hn : As.length = n) (hcy : y.cls = RX12) (hst : (st.map fun v => v.category).sum ≤ 8) (hs0 : st0 = As.reverse ++ .ref η.1 :: st) (hdg : decode code pc = .ok (.invokevirtual index, 3)) (hf : ce ≤ room_1.cells ∧ sl ≤ room_1.slots) (kk : JL p l e s m b below meth c D θ η A ce sl κ μ1 lv (.int r :: st) (pc + 3)) : JL p l e s m b below meth c D θ η A ce sl κ μ lv st0 pc := by
  intro H locs ls hP hD hS h
  subst hs0
  obtain ⟨hx, hb9, hml, hown, hts, hK, hA⟩ := K
  have hsp := sp_app2 (wE θ κ) (wM η μ)
  have hFc := hsp.F hD hS hA
  have hKc := hK.sub (tys' := tM η) [5, 6, 7, 8] rfl
  refine va_calli (va_runV (As := As) (rest := st) ⟨hx, hb9, hml, hown, hts⟩ (hM H.size) (cwV n hts hG rfl rfl rfl ⟨rfl, hd⟩ (rm_lawM hj hm)) ⟨Pm_blind, by rw [hcy]; exact va_recv (q := (RX12, TX12, 41)) (q0 := 0) (ci := 12) (fs := fM η μ) hKc (hsp.P hP) rfl rfl, fun U hU hW => ⟨rfl, by rw [hU], by rw [hU]; exact hsp.P hP, va_K.moved hW.alike hKc, (hsp.D hD).weaken (fun _ _ _ _ => trivial)⟩⟩ rfl hn h.1 rfl (lv_room hst) hdg hf) hS (fun q _ h => hFc q h) hFc (fun r1 u t H1 locs1 ht hvm hw hB hz1 hk1 hS1 => ?_)
  obtain ⟨hP1, hK1, hD1⟩ := hB
  rw [ht] at hP1
  obtain ⟨hP2, hD2⟩ := hsp.J hP hD hk1 hFc hP1 hD1
  obtain ⟨rfl, rfl⟩ := hw
  exact kk H1 locs1 ls hP2 hD2 hS1 h
end LRows
theorem l_in1 {x : Int32} {t L : Nat} (hx : x = nI t) (ht : t + 6 ≤ L) (hL : L ≤ 3072) : vp_in (x + 1) L := by
  rw [hx, show (1 : Int32) = nI 1 from rfl, nI_add]
  exact vp_in_nI (by omega) (by omega)
theorem l_in2 {x : Int32} {t L : Nat} (hx : x = nI t) (ht : t + 6 ≤ L) (hL : L ≤ 3072) : vp_in (x + 2) L := by
  rw [hx, show (2 : Int32) = nI 2 from rfl, nI_add]
  exact vp_in_nI (by omega) (by omega)
theorem l_in3 {x : Int32} {t L : Nat} (hx : x = nI t) (ht : t + 6 ≤ L) (hL : L ≤ 3072) : vp_in (x + 3) L := by
  rw [hx, show (3 : Int32) = nI 3 from rfl, nI_add]
  exact vp_in_nI (by omega) (by omega)
theorem l_in4 {x : Int32} {t L : Nat} (hx : x = nI t) (ht : t + 6 ≤ L) (hL : L ≤ 3072) : vp_in (x + 4) L := by
  rw [hx, show (4 : Int32) = nI 4 from rfl, nI_add]
  exact vp_in_nI (by omega) (by omega)
theorem l_in5 {x : Int32} {t L : Nat} (hx : x = nI t) (ht : t + 6 ≤ L) (hL : L ≤ 3072) : vp_in (x + 5) L := by
  rw [hx, show (5 : Int32) = nI 5 from rfl, nI_add]
  exact vp_in_nI (by omega) (by omega)
theorem lG_13 : GoodIn lw_tbl (wsV R_law 13 y_ErrataRow_feed.cls y_ErrataRow_feed (.code y_ErrataRow_feed c_ErrataRow_feed 6 (some .int) :: lw_gt)) := gLV (lw_at 506 (by decide +kernel) rfl) (lw_at 507 (by decide +kernel) rfl) (lw_at 508 (by decide +kernel) rfl) ei_ErrataRow (lw_at 509 (by decide +kernel) rfl)
theorem lG_17 : GoodIn lw_tbl (wsV R_law 17 y12_feed.cls y12_feed (.code y12_feed c12_feed 6 (some .int) :: lw_gt)) := gLV (lw_at 1352 (by decide +kernel) rfl) (lw_at 1353 (by decide +kernel) rfl) (lw_at 1354 (by decide +kernel) rfl) mi_X12 (lw_at 1355 (by decide +kernel) rfl)
theorem lh_feed : y12_feed.cls ≠ "java/lang/invoke/MethodHandle" ∧ y12_feed.cls ≠ "java/lang/invoke/VarHandle" ∧ (parseMethodDescriptor y12_feed.desc).map (fun d => d.parameters.length) = some 5 := by decide +kernel
theorem lG_18 : GoodIn lw_tbl (wsV R_law 18 y_ErrataRow_end.cls y_ErrataRow_end (.code y_ErrataRow_end c_ErrataRow_end 2 (some .int) :: lw_gt)) := gLV (lw_at 514 (by decide +kernel) rfl) (lw_at 515 (by decide +kernel) rfl) (lw_at 516 (by decide +kernel) rfl) ei_ErrataRow (lw_at 517 (by decide +kernel) rfl)
theorem lG_22 : GoodIn lw_tbl (wsV R_law 22 y12_end.cls y12_end (.code y12_end c12_end 2 (some .int) :: lw_gt)) := gLV (lw_at 1360 (by decide +kernel) rfl) (lw_at 1361 (by decide +kernel) rfl) (lw_at 1362 (by decide +kernel) rfl) mi_X12 (lw_at 1363 (by decide +kernel) rfl)
theorem lh_end : y12_end.cls ≠ "java/lang/invoke/MethodHandle" ∧ y12_end.cls ≠ "java/lang/invoke/VarHandle" ∧ (parseMethodDescriptor y12_end.desc).map (fun d => d.parameters.length) = some 1 := by decide +kernel
theorem lG_23 : GoodIn lw_tbl (wsV R_law 23 y_ErrataRow_book.cls y_ErrataRow_book (.code y_ErrataRow_book c_ErrataRow_book 2 (some .int) :: lw_gt)) := gLV (lw_at 518 (by decide +kernel) rfl) (lw_at 519 (by decide +kernel) rfl) (lw_at 520 (by decide +kernel) rfl) ei_ErrataRow (lw_at 521 (by decide +kernel) rfl)
theorem lG_27 : GoodIn lw_tbl (wsV R_law 27 y12_book.cls y12_book (.code y12_book c12_book 2 (some .int) :: lw_gt)) := gLV (lw_at 1519 (by decide +kernel) rfl) (lw_at 1520 (by decide +kernel) rfl) (lw_at 1521 (by decide +kernel) rfl) mi_X12 (lw_at 1522 (by decide +kernel) rfl)
theorem lh_book : y12_book.cls ≠ "java/lang/invoke/MethodHandle" ∧ y12_book.cls ≠ "java/lang/invoke/VarHandle" ∧ (parseMethodDescriptor y12_book.desc).map (fun d => d.parameters.length) = some 0 := by decide +kernel
theorem lG_28 : GoodIn lw_tbl (wsV R_law 28 y_ErrataRow_rule.cls y_ErrataRow_rule (.code y_ErrataRow_rule c_ErrataRow_rule 2 (some .int) :: lw_gt)) := gLV (lw_at 756 (by decide +kernel) rfl) (lw_at 757 (by decide +kernel) rfl) (lw_at 758 (by decide +kernel) rfl) ei_ErrataRow (lw_at 759 (by decide +kernel) rfl)
theorem lG_31 : GoodIn lw_tbl (wsV R_law 31 y12_rule.cls y12_rule (.code y12_rule c12_rule 1 (some .int) :: lw_gt)) := gLV (lw_at 1364 (by decide +kernel) rfl) (lw_at 1365 (by decide +kernel) rfl) (lw_at 1366 (by decide +kernel) rfl) mi_X12 (lw_at 1367 (by decide +kernel) rfl)
theorem lh_rule : y12_rule.cls ≠ "java/lang/invoke/MethodHandle" ∧ y12_rule.cls ≠ "java/lang/invoke/VarHandle" ∧ (parseMethodDescriptor y12_rule.desc).map (fun d => d.parameters.length) = some 0 := by decide +kernel
theorem lG_32 : GoodIn lw_tbl (wsV R_law 32 y_ErrataRow_force.cls y_ErrataRow_force (.code y_ErrataRow_force c_ErrataRow_force 3 (some .int) :: lw_gt)) := gLV (lw_at 843 (by decide +kernel) rfl) (lw_at 844 (by decide +kernel) rfl) (lw_at 845 (by decide +kernel) rfl) ei_ErrataRow (lw_at 846 (by decide +kernel) rfl)
theorem lG_35 : GoodIn lw_tbl (wsV R_law 35 y12_force.cls y12_force (.code y12_force c12_force 3 (some .int) :: lw_gt)) := gLV (lw_at 1527 (by decide +kernel) rfl) (lw_at 1528 (by decide +kernel) rfl) (lw_at 1529 (by decide +kernel) rfl) mi_X12 (lw_at 1530 (by decide +kernel) rfl)
theorem lh_force : y12_force.cls ≠ "java/lang/invoke/MethodHandle" ∧ y12_force.cls ≠ "java/lang/invoke/VarHandle" ∧ (parseMethodDescriptor y12_force.desc).map (fun d => d.parameters.length) = some 1 := by decide +kernel
theorem lG_36 : GoodIn lw_tbl (wsV R_law 36 y_ErrataRow_letter.cls y_ErrataRow_letter (.code y_ErrataRow_letter c_ErrataRow_letter 3 (some .int) :: lw_gt)) := gLV (lw_at 847 (by decide +kernel) rfl) (lw_at 848 (by decide +kernel) rfl) (lw_at 849 (by decide +kernel) rfl) ei_ErrataRow (lw_at 850 (by decide +kernel) rfl)
theorem lG_40 : GoodIn lw_tbl (wsV R_law 40 y12_letter.cls y12_letter (.code y12_letter c12_letter 3 (some .int) :: lw_gt)) := gLV (lw_at 1535 (by decide +kernel) rfl) (lw_at 1536 (by decide +kernel) rfl) (lw_at 1537 (by decide +kernel) rfl) mi_X12 (lw_at 1538 (by decide +kernel) rfl)
theorem lh_letter : y12_letter.cls ≠ "java/lang/invoke/MethodHandle" ∧ y12_letter.cls ≠ "java/lang/invoke/VarHandle" ∧ (parseMethodDescriptor y12_letter.desc).map (fun d => d.parameters.length) = some 2 := by decide +kernel
theorem lG_41 : GoodIn lw_tbl (wsV R_law 41 y_ErrataRow_habit.cls y_ErrataRow_habit (.code y_ErrataRow_habit c_ErrataRow_habit 4 (some .int) :: lw_gt)) := gLV (lw_at 855 (by decide +kernel) rfl) (lw_at 856 (by decide +kernel) rfl) (lw_at 857 (by decide +kernel) rfl) ei_ErrataRow (lw_at 858 (by decide +kernel) rfl)
theorem lG_44 : GoodIn lw_tbl (wsV R_law 44 y12_habit.cls y12_habit (.code y12_habit c12_habit 3 (some .int) :: lw_gt)) := gLV (lw_at 1543 (by decide +kernel) rfl) (lw_at 1544 (by decide +kernel) rfl) (lw_at 1545 (by decide +kernel) rfl) mi_X12 (lw_at 1546 (by decide +kernel) rfl)
theorem lh_habit : y12_habit.cls ≠ "java/lang/invoke/MethodHandle" ∧ y12_habit.cls ≠ "java/lang/invoke/VarHandle" ∧ (parseMethodDescriptor y12_habit.desc).map (fun d => d.parameters.length) = some 2 := by decide +kernel
theorem lG_45 : GoodIn lw_tbl (wsV R_law 45 y_ErrataRow_edition.cls y_ErrataRow_edition (.code y_ErrataRow_edition c_ErrataRow_edition 2 (some .int) :: lw_gt)) := gLV (lw_at 887 (by decide +kernel) rfl) (lw_at 888 (by decide +kernel) rfl) (lw_at 889 (by decide +kernel) rfl) ei_ErrataRow (lw_at 890 (by decide +kernel) rfl)
theorem lG_48 : GoodIn lw_tbl (wsV R_law 48 y12_edition.cls y12_edition (.code y12_edition c12_edition 2 (some .int) :: lw_gt)) := gLV (lw_at 1559 (by decide +kernel) rfl) (lw_at 1560 (by decide +kernel) rfl) (lw_at 1561 (by decide +kernel) rfl) mi_X12 (lw_at 1562 (by decide +kernel) rfl)
theorem lh_edition : y12_edition.cls ≠ "java/lang/invoke/MethodHandle" ∧ y12_edition.cls ≠ "java/lang/invoke/VarHandle" ∧ (parseMethodDescriptor y12_edition.desc).map (fun d => d.parameters.length) = some 0 := by decide +kernel
theorem lG_49 : GoodIn lw_tbl (wsV R_law 49 y_ErrataRow_set.cls y_ErrataRow_set (.code y_ErrataRow_set c_ErrataRow_set 4 (some .int) :: lw_gt)) := gLV (lw_at 964 (by decide +kernel) rfl) (lw_at 965 (by decide +kernel) rfl) (lw_at 966 (by decide +kernel) rfl) ei_ErrataRow (lw_at 967 (by decide +kernel) rfl)
theorem lG_52 : GoodIn lw_tbl (wsV R_law 52 y12_set.cls y12_set (.code y12_set c12_set 4 (some .int) :: lw_gt)) := gLV (lw_at 1640 (by decide +kernel) rfl) (lw_at 1641 (by decide +kernel) rfl) (lw_at 1642 (by decide +kernel) rfl) mi_X12 (lw_at 1643 (by decide +kernel) rfl)
theorem lh_set : y12_set.cls ≠ "java/lang/invoke/MethodHandle" ∧ y12_set.cls ≠ "java/lang/invoke/VarHandle" ∧ (parseMethodDescriptor y12_set.desc).map (fun d => d.parameters.length) = some 2 := by decide +kernel
theorem lG_53 : GoodIn lw_tbl (wsV R_law 53 y_ErrataRow_mend.cls y_ErrataRow_mend (.code y_ErrataRow_mend c_ErrataRow_mend 2 (some .int) :: lw_gt)) := gLV (lw_at 971 (by decide +kernel) rfl) (lw_at 972 (by decide +kernel) rfl) (lw_at 973 (by decide +kernel) rfl) ei_ErrataRow (lw_at 974 (by decide +kernel) rfl)
theorem lG_56 : GoodIn lw_tbl (wsV R_law 56 y12_mend.cls y12_mend (.code y12_mend c12_mend 2 (some .int) :: lw_gt)) := gLV (lw_at 1645 (by decide +kernel) rfl) (lw_at 1646 (by decide +kernel) rfl) (lw_at 1647 (by decide +kernel) rfl) mi_X12 (lw_at 1648 (by decide +kernel) rfl)
theorem lh_mend : y12_mend.cls ≠ "java/lang/invoke/MethodHandle" ∧ y12_mend.cls ≠ "java/lang/invoke/VarHandle" ∧ (parseMethodDescriptor y12_mend.desc).map (fun d => d.parameters.length) = some 1 := by decide +kernel
theorem lG_57 : GoodIn lw_tbl (wsV R_law 57 y_ErrataRow_hang.cls y_ErrataRow_hang (.code y_ErrataRow_hang c_ErrataRow_hang 3 (some .int) :: lw_gt)) := gLV (lw_at 980 (by decide +kernel) rfl) (lw_at 981 (by decide +kernel) rfl) (lw_at 982 (by decide +kernel) rfl) ei_ErrataRow (lw_at 983 (by decide +kernel) rfl)
theorem lG_60 : GoodIn lw_tbl (wsV R_law 60 y12_hang.cls y12_hang (.code y12_hang c12_hang 3 (some .int) :: lw_gt)) := gLV (lw_at 1649 (by decide +kernel) rfl) (lw_at 1650 (by decide +kernel) rfl) (lw_at 1651 (by decide +kernel) rfl) mi_X12 (lw_at 1652 (by decide +kernel) rfl)
theorem lh_hang : y12_hang.cls ≠ "java/lang/invoke/MethodHandle" ∧ y12_hang.cls ≠ "java/lang/invoke/VarHandle" ∧ (parseMethodDescriptor y12_hang.desc).map (fun d => d.parameters.length) = some 2 := by decide +kernel
theorem lG_61 : GoodIn lw_tbl (wsV R_law 61 y_ErrataRow_fill.cls y_ErrataRow_fill (.code y_ErrataRow_fill c_ErrataRow_fill 2 (some .int) :: lw_gt)) := gLV (lw_at 984 (by decide +kernel) rfl) (lw_at 985 (by decide +kernel) rfl) (lw_at 986 (by decide +kernel) rfl) ei_ErrataRow (lw_at 987 (by decide +kernel) rfl)
theorem lG_64 : GoodIn lw_tbl (wsV R_law 64 y12_fill.cls y12_fill (.code y12_fill c12_fill 3 (some .int) :: lw_gt)) := gLV (lw_at 1653 (by decide +kernel) rfl) (lw_at 1654 (by decide +kernel) rfl) (lw_at 1655 (by decide +kernel) rfl) mi_X12 (lw_at 1656 (by decide +kernel) rfl)
theorem lh_fill : y12_fill.cls ≠ "java/lang/invoke/MethodHandle" ∧ y12_fill.cls ≠ "java/lang/invoke/VarHandle" ∧ (parseMethodDescriptor y12_fill.desc).map (fun d => d.parameters.length) = some 1 := by decide +kernel
theorem lG_65 : GoodIn lw_tbl (wsV R_law 65 y_ErrataRow_undo.cls y_ErrataRow_undo (.code y_ErrataRow_undo c_ErrataRow_undo 1 (some .int) :: lw_gt)) := gLV (lw_at 989 (by decide +kernel) rfl) (lw_at 990 (by decide +kernel) rfl) (lw_at 991 (by decide +kernel) rfl) ei_ErrataRow (lw_at 992 (by decide +kernel) rfl)
theorem lG_68 : GoodIn lw_tbl (wsV R_law 68 y12_undo.cls y12_undo (.code y12_undo c12_undo 2 (some .int) :: lw_gt)) := gLV (lw_at 1555 (by decide +kernel) rfl) (lw_at 1556 (by decide +kernel) rfl) (lw_at 1557 (by decide +kernel) rfl) mi_X12 (lw_at 1558 (by decide +kernel) rfl)
theorem lh_undo : y12_undo.cls ≠ "java/lang/invoke/MethodHandle" ∧ y12_undo.cls ≠ "java/lang/invoke/VarHandle" ∧ (parseMethodDescriptor y12_undo.desc).map (fun d => d.parameters.length) = some 0 := by decide +kernel
theorem lG_69 : GoodIn lw_tbl (wsV R_law 69 y_ErrataRow_ahead.cls y_ErrataRow_ahead (.code y_ErrataRow_ahead c_ErrataRow_ahead 4 (some .int) :: lw_gt)) := gLV (lw_at 997 (by decide +kernel) rfl) (lw_at 998 (by decide +kernel) rfl) (lw_at 999 (by decide +kernel) rfl) ei_ErrataRow (lw_at 1000 (by decide +kernel) rfl)
theorem lG_73 : GoodIn lw_tbl (wsV R_law 73 y12_ahead.cls y12_ahead (.code y12_ahead c12_ahead 5 (some .int) :: lw_gt)) := gLV (lw_at 1658 (by decide +kernel) rfl) (lw_at 1659 (by decide +kernel) rfl) (lw_at 1660 (by decide +kernel) rfl) mi_X12 (lw_at 1661 (by decide +kernel) rfl)
theorem lh_ahead : y12_ahead.cls ≠ "java/lang/invoke/MethodHandle" ∧ y12_ahead.cls ≠ "java/lang/invoke/VarHandle" ∧ (parseMethodDescriptor y12_ahead.desc).map (fun d => d.parameters.length) = some 3 := by decide +kernel
theorem lG_74 : GoodIn lw_tbl (wsV R_law 74 y_ErrataRow_allRight.cls y_ErrataRow_allRight (.code y_ErrataRow_allRight c_ErrataRow_allRight 1 (some .int) :: lw_gt)) := gLV (lw_at 1010 (by decide +kernel) rfl) (lw_at 1011 (by decide +kernel) rfl) (lw_at 1012 (by decide +kernel) rfl) ei_ErrataRow (lw_at 1013 (by decide +kernel) rfl)
theorem lG_77 : GoodIn lw_tbl (wsV R_law 77 y12_allRight.cls y12_allRight (.code y12_allRight c12_allRight 1 (some .int) :: lw_gt)) := gLV (lw_at 1676 (by decide +kernel) rfl) (lw_at 1677 (by decide +kernel) rfl) (lw_at 1678 (by decide +kernel) rfl) mi_X12 (lw_at 1679 (by decide +kernel) rfl)
theorem lh_allRight : y12_allRight.cls ≠ "java/lang/invoke/MethodHandle" ∧ y12_allRight.cls ≠ "java/lang/invoke/VarHandle" ∧ (parseMethodDescriptor y12_allRight.desc).map (fun d => d.parameters.length) = some 0 := by decide +kernel
theorem lG_78 : GoodIn lw_tbl (wsV R_law 78 y_ErrataRow_firstRight.cls y_ErrataRow_firstRight (.code y_ErrataRow_firstRight c_ErrataRow_firstRight 2 (some .int) :: lw_gt)) := gLV (lw_at 1018 (by decide +kernel) rfl) (lw_at 1019 (by decide +kernel) rfl) (lw_at 1020 (by decide +kernel) rfl) ei_ErrataRow (lw_at 1021 (by decide +kernel) rfl)
theorem lG_81 : GoodIn lw_tbl (wsV R_law 81 y12_firstRight.cls y12_firstRight (.code y12_firstRight c12_firstRight 2 (some .int) :: lw_gt)) := gLV (lw_at 1684 (by decide +kernel) rfl) (lw_at 1685 (by decide +kernel) rfl) (lw_at 1686 (by decide +kernel) rfl) mi_X12 (lw_at 1687 (by decide +kernel) rfl)
theorem lh_firstRight : y12_firstRight.cls ≠ "java/lang/invoke/MethodHandle" ∧ y12_firstRight.cls ≠ "java/lang/invoke/VarHandle" ∧ (parseMethodDescriptor y12_firstRight.desc).map (fun d => d.parameters.length) = some 1 := by decide +kernel
theorem lG_82 : GoodIn lw_tbl (wsV R_law 82 y_ErrataRow_unpaid.cls y_ErrataRow_unpaid (.code y_ErrataRow_unpaid c_ErrataRow_unpaid 4 (some .int) :: lw_gt)) := gLV (lw_at 1022 (by decide +kernel) rfl) (lw_at 1023 (by decide +kernel) rfl) (lw_at 1024 (by decide +kernel) rfl) ei_ErrataRow (lw_at 1025 (by decide +kernel) rfl)
theorem lG_85 : GoodIn lw_tbl (wsV R_law 85 y12_unpaid.cls y12_unpaid (.code y12_unpaid c12_unpaid 4 (some .int) :: lw_gt)) := gLV (lw_at 1688 (by decide +kernel) rfl) (lw_at 1689 (by decide +kernel) rfl) (lw_at 1690 (by decide +kernel) rfl) mi_X12 (lw_at 1691 (by decide +kernel) rfl)
theorem lh_unpaid : y12_unpaid.cls ≠ "java/lang/invoke/MethodHandle" ∧ y12_unpaid.cls ≠ "java/lang/invoke/VarHandle" ∧ (parseMethodDescriptor y12_unpaid.desc).map (fun d => d.parameters.length) = some 1 := by decide +kernel
theorem lG_86 : GoodIn lw_tbl (wsV R_law 86 y_ErrataRow_row.cls y_ErrataRow_row (.code y_ErrataRow_row c_ErrataRow_row 3 (some .int) :: lw_gt)) := gLV (lw_at 1027 (by decide +kernel) rfl) (lw_at 1028 (by decide +kernel) rfl) (lw_at 1029 (by decide +kernel) rfl) ei_ErrataRow (lw_at 1030 (by decide +kernel) rfl)
theorem lG_89 : GoodIn lw_tbl (wsV R_law 89 y12_row.cls y12_row (.code y12_row c12_row 4 (some .int) :: lw_gt)) := gLV (lw_at 1695 (by decide +kernel) rfl) (lw_at 1696 (by decide +kernel) rfl) (lw_at 1697 (by decide +kernel) rfl) mi_X12 (lw_at 1698 (by decide +kernel) rfl)
theorem lh_row : y12_row.cls ≠ "java/lang/invoke/MethodHandle" ∧ y12_row.cls ≠ "java/lang/invoke/VarHandle" ∧ (parseMethodDescriptor y12_row.desc).map (fun d => d.parameters.length) = some 2 := by decide +kernel
theorem lG_90 : GoodIn lw_tbl (wsV R_law 90 y_ErrataRow_rings.cls y_ErrataRow_rings (.code y_ErrataRow_rings c_ErrataRow_rings 4 (some .int) :: lw_gt)) := gLV (lw_at 1056 (by decide +kernel) rfl) (lw_at 1057 (by decide +kernel) rfl) (lw_at 1058 (by decide +kernel) rfl) ei_ErrataRow (lw_at 1059 (by decide +kernel) rfl)
theorem lG_93 : GoodIn lw_tbl (wsV R_law 93 y12_rings.cls y12_rings (.code y12_rings c12_rings 7 (some .int) :: lw_gt)) := gLV (lw_at 1712 (by decide +kernel) rfl) (lw_at 1713 (by decide +kernel) rfl) (lw_at 1714 (by decide +kernel) rfl) mi_X12 (lw_at 1715 (by decide +kernel) rfl)
theorem lh_rings : y12_rings.cls ≠ "java/lang/invoke/MethodHandle" ∧ y12_rings.cls ≠ "java/lang/invoke/VarHandle" ∧ (parseMethodDescriptor y12_rings.desc).map (fun d => d.parameters.length) = some 0 := by decide +kernel
theorem lG_94 : GoodIn lw_tbl (wsV R_law 94 y_ErrataRow_twice.cls y_ErrataRow_twice (.code y_ErrataRow_twice c_ErrataRow_twice 2 (some .int) :: lw_gt)) := gLV (lw_at 1064 (by decide +kernel) rfl) (lw_at 1065 (by decide +kernel) rfl) (lw_at 1066 (by decide +kernel) rfl) ei_ErrataRow (lw_at 1067 (by decide +kernel) rfl)
theorem lG_97 : GoodIn lw_tbl (wsV R_law 97 y12_twice.cls y12_twice (.code y12_twice c12_twice 7 (some .int) :: lw_gt)) := gLV (lw_at 1716 (by decide +kernel) rfl) (lw_at 1717 (by decide +kernel) rfl) (lw_at 1718 (by decide +kernel) rfl) mi_X12 (lw_at 1719 (by decide +kernel) rfl)
theorem lh_twice : y12_twice.cls ≠ "java/lang/invoke/MethodHandle" ∧ y12_twice.cls ≠ "java/lang/invoke/VarHandle" ∧ (parseMethodDescriptor y12_twice.desc).map (fun d => d.parameters.length) = some 1 := by decide +kernel
theorem lG_98 : GoodIn lw_tbl (wsV R_law 98 y_ErrataRow_apart.cls y_ErrataRow_apart (.code y_ErrataRow_apart c_ErrataRow_apart 10 (some .int) :: lw_gt)) := gLV (lw_at 1080 (by decide +kernel) rfl) (lw_at 1081 (by decide +kernel) rfl) (lw_at 1082 (by decide +kernel) rfl) ei_ErrataRow (lw_at 1083 (by decide +kernel) rfl)
theorem lG_101 : GoodIn lw_tbl (wsV R_law 101 y12_apart.cls y12_apart (.code y12_apart c12_apart 8 (some .int) :: lw_gt)) := gLV (lw_at 1725 (by decide +kernel) rfl) (lw_at 1726 (by decide +kernel) rfl) (lw_at 1727 (by decide +kernel) rfl) mi_X12 (lw_at 1728 (by decide +kernel) rfl)
theorem lh_apart : y12_apart.cls ≠ "java/lang/invoke/MethodHandle" ∧ y12_apart.cls ≠ "java/lang/invoke/VarHandle" ∧ (parseMethodDescriptor y12_apart.desc).map (fun d => d.parameters.length) = some 3 := by decide +kernel
theorem lG_102 : GoodIn lw_tbl (wsV R_law 102 y_ErrataRow_one.cls y_ErrataRow_one (.code y_ErrataRow_one c_ErrataRow_one 6 (some .int) :: lw_gt)) := gLV (lw_at 1088 (by decide +kernel) rfl) (lw_at 1089 (by decide +kernel) rfl) (lw_at 1090 (by decide +kernel) rfl) ei_ErrataRow (lw_at 1091 (by decide +kernel) rfl)
theorem lG_105 : GoodIn lw_tbl (wsV R_law 105 y12_one.cls y12_one (.code y12_one c12_one 9 (some .int) :: lw_gt)) := gLV (lw_at 1733 (by decide +kernel) rfl) (lw_at 1734 (by decide +kernel) rfl) (lw_at 1735 (by decide +kernel) rfl) mi_X12 (lw_at 1736 (by decide +kernel) rfl)
theorem lh_one : y12_one.cls ≠ "java/lang/invoke/MethodHandle" ∧ y12_one.cls ≠ "java/lang/invoke/VarHandle" ∧ (parseMethodDescriptor y12_one.desc).map (fun d => d.parameters.length) = some 2 := by decide +kernel
theorem lG_106 : GoodIn lw_tbl (wsV R_law 106 y_ErrataRow_leftOff.cls y_ErrataRow_leftOff (.code y_ErrataRow_leftOff c_ErrataRow_leftOff 7 (some .int) :: lw_gt)) := gLV (lw_at 1096 (by decide +kernel) rfl) (lw_at 1097 (by decide +kernel) rfl) (lw_at 1098 (by decide +kernel) rfl) ei_ErrataRow (lw_at 1099 (by decide +kernel) rfl)
theorem lG_109 : GoodIn lw_tbl (wsV R_law 109 y12_leftOff.cls y12_leftOff (.code y12_leftOff c12_leftOff 7 (some .int) :: lw_gt)) := gLV (lw_at 1742 (by decide +kernel) rfl) (lw_at 1743 (by decide +kernel) rfl) (lw_at 1744 (by decide +kernel) rfl) mi_X12 (lw_at 1745 (by decide +kernel) rfl)
theorem lh_leftOff : y12_leftOff.cls ≠ "java/lang/invoke/MethodHandle" ∧ y12_leftOff.cls ≠ "java/lang/invoke/VarHandle" ∧ (parseMethodDescriptor y12_leftOff.desc).map (fun d => d.parameters.length) = some 2 := by decide +kernel
theorem lG_110 : GoodIn lw_tbl (wsV R_law 110 y_ErrataRow_leastPurse.cls y_ErrataRow_leastPurse (.code y_ErrataRow_leastPurse c_ErrataRow_leastPurse 3 (some .int) :: lw_gt)) := gLV (lw_at 1100 (by decide +kernel) rfl) (lw_at 1101 (by decide +kernel) rfl) (lw_at 1102 (by decide +kernel) rfl) ei_ErrataRow (lw_at 1103 (by decide +kernel) rfl)
theorem lG_113 : GoodIn lw_tbl (wsV R_law 113 y12_leastPurse.cls y12_leastPurse (.code y12_leastPurse c12_leastPurse 4 (some .int) :: lw_gt)) := gLV (lw_at 1746 (by decide +kernel) rfl) (lw_at 1747 (by decide +kernel) rfl) (lw_at 1748 (by decide +kernel) rfl) mi_X12 (lw_at 1749 (by decide +kernel) rfl)
theorem lh_leastPurse : y12_leastPurse.cls ≠ "java/lang/invoke/MethodHandle" ∧ y12_leastPurse.cls ≠ "java/lang/invoke/VarHandle" ∧ (parseMethodDescriptor y12_leastPurse.desc).map (fun d => d.parameters.length) = some 1 := by decide +kernel
theorem lG_114 : GoodIn lw_tbl (wsV R_law 114 y_ErrataRow_putAs.cls y_ErrataRow_putAs (.code y_ErrataRow_putAs c_ErrataRow_putAs 4 (some .int) :: lw_gt)) := gLV (lw_at 1141 (by decide +kernel) rfl) (lw_at 1142 (by decide +kernel) rfl) (lw_at 1143 (by decide +kernel) rfl) ei_ErrataRow (lw_at 1144 (by decide +kernel) rfl)
theorem lG_117 : GoodIn lw_tbl (wsV R_law 117 y12_putAs.cls y12_putAs (.code y12_putAs c12_putAs 5 (some .int) :: lw_gt)) := gLV (lw_at 1813 (by decide +kernel) rfl) (lw_at 1814 (by decide +kernel) rfl) (lw_at 1815 (by decide +kernel) rfl) mi_X12 (lw_at 1816 (by decide +kernel) rfl)
theorem lh_putAs : y12_putAs.cls ≠ "java/lang/invoke/MethodHandle" ∧ y12_putAs.cls ≠ "java/lang/invoke/VarHandle" ∧ (parseMethodDescriptor y12_putAs.desc).map (fun d => d.parameters.length) = some 1 := by decide +kernel
theorem lG_118 : GoodIn lw_tbl (wsV R_law 118 y_ErrataRow_rests.cls y_ErrataRow_rests (.code y_ErrataRow_rests c_ErrataRow_rests 6 (some .int) :: lw_gt)) := gLV (lw_at 1117 (by decide +kernel) rfl) (lw_at 1118 (by decide +kernel) rfl) (lw_at 1119 (by decide +kernel) rfl) ei_ErrataRow (lw_at 1120 (by decide +kernel) rfl)
theorem lG_122 : GoodIn lw_tbl (wsV R_law 122 y12_rests.cls y12_rests (.code y12_rests c12_rests 8 (some .int) :: lw_gt)) := gLV (lw_at 1754 (by decide +kernel) rfl) (lw_at 1755 (by decide +kernel) rfl) (lw_at 1756 (by decide +kernel) rfl) mi_X12 (lw_at 1757 (by decide +kernel) rfl)
theorem lh_rests : y12_rests.cls ≠ "java/lang/invoke/MethodHandle" ∧ y12_rests.cls ≠ "java/lang/invoke/VarHandle" ∧ (parseMethodDescriptor y12_rests.desc).map (fun d => d.parameters.length) = some 4 := by decide +kernel
theorem lG_123 : GoodIn lw_tbl (wsV R_law 123 y_ErrataRow_ring.cls y_ErrataRow_ring (.code y_ErrataRow_ring c_ErrataRow_ring 5 (some .int) :: lw_gt)) := gLV (lw_at 1049 (by decide +kernel) rfl) (lw_at 1050 (by decide +kernel) rfl) (lw_at 1051 (by decide +kernel) rfl) ei_ErrataRow (lw_at 1052 (by decide +kernel) rfl)
theorem lG_126 : GoodIn lw_tbl (wsV R_law 126 y12_ring.cls y12_ring (.code y12_ring c12_ring 4 (some .int) :: lw_gt)) := gLV (lw_at 1771 (by decide +kernel) rfl) (lw_at 1772 (by decide +kernel) rfl) (lw_at 1773 (by decide +kernel) rfl) mi_X12 (lw_at 1774 (by decide +kernel) rfl)
theorem lh_ring : y12_ring.cls ≠ "java/lang/invoke/MethodHandle" ∧ y12_ring.cls ≠ "java/lang/invoke/VarHandle" ∧ (parseMethodDescriptor y12_ring.desc).map (fun d => d.parameters.length) = some 1 := by decide +kernel
theorem lG_127 : GoodIn lw_tbl (wsV R_law 127 y_ErrataRow_pence.cls y_ErrataRow_pence (.code y_ErrataRow_pence c_ErrataRow_pence 11 (some .int) :: lw_gt)) := gLV (lw_at 1084 (by decide +kernel) rfl) (lw_at 1085 (by decide +kernel) rfl) (lw_at 1086 (by decide +kernel) rfl) ei_ErrataRow (lw_at 1087 (by decide +kernel) rfl)
theorem lG_130 : GoodIn lw_tbl (wsV R_law 130 y12_pence.cls y12_pence (.code y12_pence c12_pence 9 (some .int) :: lw_gt)) := gLV (lw_at 1779 (by decide +kernel) rfl) (lw_at 1780 (by decide +kernel) rfl) (lw_at 1781 (by decide +kernel) rfl) mi_X12 (lw_at 1782 (by decide +kernel) rfl)
theorem lh_pence : y12_pence.cls ≠ "java/lang/invoke/MethodHandle" ∧ y12_pence.cls ≠ "java/lang/invoke/VarHandle" ∧ (parseMethodDescriptor y12_pence.desc).map (fun d => d.parameters.length) = some 2 := by decide +kernel
theorem lG_131 : GoodIn lw_tbl (wsV R_law 131 y_ErrataRow_note.cls y_ErrataRow_note (.code y_ErrataRow_note c_ErrataRow_note 5 (some .int) :: lw_gt)) := gLV (lw_at 1133 (by decide +kernel) rfl) (lw_at 1134 (by decide +kernel) rfl) (lw_at 1135 (by decide +kernel) rfl) ei_ErrataRow (lw_at 1136 (by decide +kernel) rfl)
theorem lG_134 : GoodIn lw_tbl (wsV R_law 134 y12_note.cls y12_note (.code y12_note c12_note 5 (some .int) :: lw_gt)) := gLV (lw_at 1784 (by decide +kernel) rfl) (lw_at 1785 (by decide +kernel) rfl) (lw_at 1786 (by decide +kernel) rfl) mi_X12 (lw_at 1787 (by decide +kernel) rfl)
theorem lh_note : y12_note.cls ≠ "java/lang/invoke/MethodHandle" ∧ y12_note.cls ≠ "java/lang/invoke/VarHandle" ∧ (parseMethodDescriptor y12_note.desc).map (fun d => d.parameters.length) = some 3 := by decide +kernel
theorem lG_135 : GoodIn lw_tbl (wsV R_law 135 y_ErrataRow_ruled.cls y_ErrataRow_ruled (.code y_ErrataRow_ruled c_ErrataRow_ruled 5 (some .int) :: lw_gt)) := gLV (lw_at 1158 (by decide +kernel) rfl) (lw_at 1159 (by decide +kernel) rfl) (lw_at 1160 (by decide +kernel) rfl) ei_ErrataRow (lw_at 1161 (by decide +kernel) rfl)
theorem lG_138 : GoodIn lw_tbl (wsV R_law 138 y12_ruled.cls y12_ruled (.code y12_ruled c12_ruled 5 (some .int) :: lw_gt)) := gLV (lw_at 1789 (by decide +kernel) rfl) (lw_at 1790 (by decide +kernel) rfl) (lw_at 1791 (by decide +kernel) rfl) mi_X12 (lw_at 1792 (by decide +kernel) rfl)
theorem lh_ruled : y12_ruled.cls ≠ "java/lang/invoke/MethodHandle" ∧ y12_ruled.cls ≠ "java/lang/invoke/VarHandle" ∧ (parseMethodDescriptor y12_ruled.desc).map (fun d => d.parameters.length) = some 1 := by decide +kernel
theorem lG_139 : GoodIn lw_tbl (wsV R_law 139 y_ErrataRow_look.cls y_ErrataRow_look (.code y_ErrataRow_look c_ErrataRow_look 8 (some .int) :: lw_gt)) := gLV (lw_at 1166 (by decide +kernel) rfl) (lw_at 1167 (by decide +kernel) rfl) (lw_at 1168 (by decide +kernel) rfl) ei_ErrataRow (lw_at 1169 (by decide +kernel) rfl)
theorem lG_142 : GoodIn lw_tbl (wsV R_law 142 y12_look.cls y12_look (.code y12_look c12_look 7 (some .int) :: lw_gt)) := gLV (lw_at 1805 (by decide +kernel) rfl) (lw_at 1806 (by decide +kernel) rfl) (lw_at 1807 (by decide +kernel) rfl) mi_X12 (lw_at 1808 (by decide +kernel) rfl)
theorem lh_look : y12_look.cls ≠ "java/lang/invoke/MethodHandle" ∧ y12_look.cls ≠ "java/lang/invoke/VarHandle" ∧ (parseMethodDescriptor y12_look.desc).map (fun d => d.parameters.length) = some 2 := by decide +kernel
theorem lG_143 : GoodIn lw_tbl (wsV R_law 143 y_ErrataRow_seed.cls y_ErrataRow_seed (.code y_ErrataRow_seed c_ErrataRow_seed 3 (some .int) :: lw_gt)) := gLV (lw_at 1182 (by decide +kernel) rfl) (lw_at 1183 (by decide +kernel) rfl) (lw_at 1184 (by decide +kernel) rfl) ei_ErrataRow (lw_at 1185 (by decide +kernel) rfl)
theorem lG_146 : GoodIn lw_tbl (wsV R_law 146 y12_seed.cls y12_seed (.code y12_seed c12_seed 3 (some .int) :: lw_gt)) := gLV (lw_at 1817 (by decide +kernel) rfl) (lw_at 1818 (by decide +kernel) rfl) (lw_at 1819 (by decide +kernel) rfl) mi_X12 (lw_at 1820 (by decide +kernel) rfl)
theorem lh_seed : y12_seed.cls ≠ "java/lang/invoke/MethodHandle" ∧ y12_seed.cls ≠ "java/lang/invoke/VarHandle" ∧ (parseMethodDescriptor y12_seed.desc).map (fun d => d.parameters.length) = some 1 := by decide +kernel
theorem lG_147 : GoodIn lw_tbl (wsV R_law 147 y_ErrataRow_slips.cls y_ErrataRow_slips (.code y_ErrataRow_slips c_ErrataRow_slips 10 (some .int) :: lw_gt)) := gLV (lw_at 1186 (by decide +kernel) rfl) (lw_at 1187 (by decide +kernel) rfl) (lw_at 1188 (by decide +kernel) rfl) ei_ErrataRow (lw_at 1189 (by decide +kernel) rfl)
theorem lG_150 : GoodIn lw_tbl (wsV R_law 150 y12_slips.cls y12_slips (.code y12_slips c12_slips 9 (some .int) :: lw_gt)) := gLV (lw_at 1821 (by decide +kernel) rfl) (lw_at 1822 (by decide +kernel) rfl) (lw_at 1823 (by decide +kernel) rfl) mi_X12 (lw_at 1824 (by decide +kernel) rfl)
theorem lh_slips : y12_slips.cls ≠ "java/lang/invoke/MethodHandle" ∧ y12_slips.cls ≠ "java/lang/invoke/VarHandle" ∧ (parseMethodDescriptor y12_slips.desc).map (fun d => d.parameters.length) = some 4 := by decide +kernel
theorem lG_151 : GoodIn lw_tbl (wsV R_law 151 y_ErrataRow_count.cls y_ErrataRow_count (.code y_ErrataRow_count c_ErrataRow_count 2 (some .int) :: lw_gt)) := gLV (lw_at 867 (by decide +kernel) rfl) (lw_at 868 (by decide +kernel) rfl) (lw_at 869 (by decide +kernel) rfl) ei_ErrataRow (lw_at 870 (by decide +kernel) rfl)
theorem lG_154 : GoodIn lw_tbl (wsV R_law 154 y12_count.cls y12_count (.code y12_count c12_count 2 (some .int) :: lw_gt)) := gLV (lw_at 1837 (by decide +kernel) rfl) (lw_at 1838 (by decide +kernel) rfl) (lw_at 1839 (by decide +kernel) rfl) mi_X12 (lw_at 1840 (by decide +kernel) rfl)
theorem lh_count : y12_count.cls ≠ "java/lang/invoke/MethodHandle" ∧ y12_count.cls ≠ "java/lang/invoke/VarHandle" ∧ (parseMethodDescriptor y12_count.desc).map (fun d => d.parameters.length) = some 1 := by decide +kernel
theorem lG_155 : GoodIn lw_tbl (wsV R_law 155 y_ErrataRow_image.cls y_ErrataRow_image (.code y_ErrataRow_image c_ErrataRow_image 3 (some .int) :: lw_gt)) := gLV (lw_at 1204 (by decide +kernel) rfl) (lw_at 1205 (by decide +kernel) rfl) (lw_at 1206 (by decide +kernel) rfl) ei_ErrataRow (lw_at 1207 (by decide +kernel) rfl)
theorem lG_158 : GoodIn lw_tbl (wsV R_law 158 y12_image.cls y12_image (.code y12_image c12_image 3 (some .int) :: lw_gt)) := gLV (lw_at 1841 (by decide +kernel) rfl) (lw_at 1842 (by decide +kernel) rfl) (lw_at 1843 (by decide +kernel) rfl) mi_X12 (lw_at 1844 (by decide +kernel) rfl)
theorem lh_image : y12_image.cls ≠ "java/lang/invoke/MethodHandle" ∧ y12_image.cls ≠ "java/lang/invoke/VarHandle" ∧ (parseMethodDescriptor y12_image.desc).map (fun d => d.parameters.length) = some 1 := by decide +kernel
theorem lG_159 : GoodIn lw_tbl (wsV R_law 159 y_ErrataRow_back.cls y_ErrataRow_back (.code y_ErrataRow_back c_ErrataRow_back 3 (some .int) :: lw_gt)) := gLV (lw_at 1217 (by decide +kernel) rfl) (lw_at 1218 (by decide +kernel) rfl) (lw_at 1219 (by decide +kernel) rfl) ei_ErrataRow (lw_at 1220 (by decide +kernel) rfl)
theorem lG_162 : GoodIn lw_tbl (wsV R_law 162 y12_back.cls y12_back (.code y12_back c12_back 3 (some .int) :: lw_gt)) := gLV (lw_at 1845 (by decide +kernel) rfl) (lw_at 1846 (by decide +kernel) rfl) (lw_at 1847 (by decide +kernel) rfl) mi_X12 (lw_at 1848 (by decide +kernel) rfl)
theorem lh_back : y12_back.cls ≠ "java/lang/invoke/MethodHandle" ∧ y12_back.cls ≠ "java/lang/invoke/VarHandle" ∧ (parseMethodDescriptor y12_back.desc).map (fun d => d.parameters.length) = some 1 := by decide +kernel
