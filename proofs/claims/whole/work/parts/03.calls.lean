/-! splitting a world: wc is what a callee takes, wr the rest -/
def SP (ws wc wr : va_W) : Prop := ∃ isC isR : List Nat, isC.map (fun i => ws[i]?) = wc.map some ∧ isR.map (fun i => ws[i]?) = wr.map some ∧ va_nd isC = true ∧ va_nd isR = true ∧ ∀ i ∈ isR, i ∉ isC
theorem sp_fm {α : Type} (f : Nat → Option α) : ∀ (is : List Nat) (w : List α), is.map f = w.map some → is.filterMap f = w
  | [], [], _ => rfl
  | [], _ :: _, h => by simp at h
  | _ :: _, [], h => by simp at h
  | i :: is, a :: w, h => by
    simp only [List.map_cons, List.cons.injEq] at h
    rw [List.filterMap_cons, h.1, sp_fm f is w h.2]
theorem sp_ndr : ∀ (n a : Nat), va_nd ((List.range n).map (fun i => a + i)) = true := by
  intro n
  induction n with
  | zero => intro a; rfl
  | succ n ih =>
    intro a
    rw [List.range_succ_eq_map, List.map_cons, List.map_map]
    have e : ((fun i => a + i) ∘ Nat.succ) = (fun i => (a + 1) + i) := by funext i; simp only [Function.comp]; omega
    rw [e]
    simp only [va_nd, ih, Bool.and_true]
    simp
    intro x _
    omega
theorem sp_nd (n : Nat) : va_nd (List.range n) = true := by
  have h := sp_ndr n 0
  have e : (fun i => 0 + i) = (id : Nat → Nat) := by funext i; simp
  rw [e, List.map_id] at h
  exact h
theorem sp_rng {α : Type} (w v : List α) : (List.range w.length).map (fun i => (w ++ v)[i]?) = w.map some := by
  apply List.ext_getElem?
  intro i
  rcases Nat.lt_or_ge i w.length with h | h
  · simp [h, List.getElem?_append_left]
  · simp [h]
theorem sp_rng2 {α : Type} (w v : List α) : ((List.range v.length).map (fun i => w.length + i)).map (fun i => (w ++ v)[i]?) = v.map some := by
  apply List.ext_getElem?
  intro i
  rcases Nat.lt_or_ge i v.length with h | h
  · simp [h]
  · simp [h]
/-- the callee takes the first part -/
theorem sp_app (w v : va_W) : SP (w ++ v) w v := ⟨List.range w.length, (List.range v.length).map (fun i => w.length + i), sp_rng w v, sp_rng2 w v, sp_nd _, sp_ndr _ _, fun i h hc => by
  obtain ⟨j, -, rfl⟩ := List.mem_map.mp h
  have := List.mem_range.mp hc
  omega⟩
theorem sp_all (w : va_W) : SP w w [] := by
  have h := sp_app w []
  rwa [List.append_nil] at h
theorem sp_none (w : va_W) : SP w [] w := sp_app [] w
theorem sp_of {ws wc wr : va_W} (isC isR : List Nat) (h1 : isC.map (fun i => ws[i]?) = wc.map some) (h2 : isR.map (fun i => ws[i]?) = wr.map some) (h3 : va_nd isC = true) (h4 : va_nd isR = true) (h5 : ∀ i ∈ isR, i ∉ isC) : SP ws wc wr := ⟨isC, isR, h1, h2, h3, h4, h5⟩
theorem SP.P {ws wc wr : va_W} (h : SP ws wc wr) {D : va_G} {cl : List vw_C} {H : Heap} (hP : va_P D cl ws H) : va_P D cl wc H := by
  obtain ⟨isC, isR, h1, -⟩ := h
  exact hP.sub isC (sp_fm _ _ _ h1)
theorem SP.D {ws wc wr : va_W} (h : SP ws wc wr) {A : Nat → Prop} (hD : va_D A ws) : va_D A wc := by
  obtain ⟨isC, isR, h1, h2, h3, -⟩ := h
  exact hD.sub isC h3 h1
theorem SP.F {ws wc wr : va_W} (h : SP ws wc wr) {A : Nat → Prop} {H0 H : Heap} {locs : List Loc} (hD : va_D A ws) (hS : va_S A H0 H locs) (hA : ∀ q, H0.size ≤ q → A q) : ∀ q, va_A wc H.size q → A q := by
  obtain ⟨isC, isR, h1, -⟩ := h
  exact va_free hD hS hA isC h1
theorem SP.J {ws wc wr w1 : va_W} (h : SP ws wc wr) {A : Nat → Prop} {D : va_G} {cl : List vw_C} {H H1 : Heap} (hP : va_P D cl ws H) (hD : va_D A ws) (hk : ∀ q : Nat, q < H.size → ¬ va_A wc H.size q → H1[q]? = H[q]?) (hF : ∀ q, va_A wc H.size q → A q) (hP1 : va_P D cl w1 H1) (hD1 : va_D (va_A wc H.size) w1) : va_P D cl (wr ++ w1) H1 ∧ va_D A (wr ++ w1) := by
  obtain ⟨isC, isR, h1, h2, h3, h4, h5⟩ := h
  exact va_join hP hD isC isR h1 h2 h4 h5 hk hF hP1 hD1
/-! contracts over a world -/
abbrev Pm (D : va_G) (cl : List vw_C) (tys : List (ClassId × FieldType)) (av : List Value) (wc : va_W) (sz : Nat) : Array Value → State → Prop := va_Pc av (fun U => U.heap.size = sz ∧ va_P D cl wc U.heap ∧ va_K D cl tys U ∧ va_D (fun _ => True) wc)
abbrev Bm {σ : Type} (D : va_G) (cl : List vw_C) (tys : List (ClassId × FieldType)) (A : Nat → Prop) (wf : σ → va_W) : σ → State → Prop := fun (u : σ) (t : State) => va_P D cl (wf u) t.heap ∧ va_K D cl tys t ∧ va_D A (wf u)
theorem Pm_blind {D : va_G} {cl : List vw_C} {tys : List (ClassId × FieldType)} {av : List Value} {wc : va_W} {sz : Nat} : FrameBlind (Pm D cl tys av wc sz) := fun a U g mk q => by obtain ⟨q0, q1, qP, qK, qD⟩ := q; exact ⟨q0, q1, qP, va_K.moved (u := U) (U := U.calling g mk a) (Vm.Alike.refl U.vm) qK, qD⟩
section JCalls
variable {p : Program} {l : Launch} {e : Env} {R : Room} {s : State} {m : MethodId} {args : Array Value} {below : List Frame} {meth : Method} {c : Code} {cc : ByteArray} {nL ce sl : Nat} {own : String} {Ts : List Cond} {D : va_G} {cl : List vw_C} {tys : List (ClassId × FieldType)} {A : Nat → Prop} {Q : State → Prop} {ws : va_W} {lv : List (Nat × Value)} {st : List Value} {pc : Nat}
theorem j_callVi (K : KK p s m args c cc nL own Ts D cl tys A) {σ : Type} {wf : σ → va_W} {post : Int32 → σ → Prop} {y : MethodName} {bytes : ByteArray} {maxL : Nat} {ret : Option FieldType} {ws' : List Cond} {rm : Room} {mc ms n index : Nat} {As : List Value} {wc wr : va_W} {st0 : List Value} {C : String} {b : Nat} (hM : ∀ sz, Met l y (.code y bytes maxL ret :: ws') rm (Pm D cl tys (.ref b :: As) wc sz) (va_Qi post (Bm D cl tys (va_A wc sz) wf) (va_A wc sz)) mc ms (va_A wc sz)) (hG : GoodIn Ts (wsV own index C y (.code y bytes maxL ret :: ws'))) (hrm : rm.cells = mc ∧ rm.slots = ms) (hd : y.cls = C ∧ y.cls ≠ "java/lang/invoke/MethodHandle" ∧ y.cls ≠ "java/lang/invoke/VarHandle" ∧ (parseMethodDescriptor y.desc).map (fun d => d.parameters.length) = some n) (hR : rm.frames + 1 ≤ R.frames ∧ 8 + (maxL + 11) + rm.locals ≤ R.locals) (hn : As.length = n) (q0 : Nat) {ci : Nat} {qc : vw_C} {fs : List Value} (he : ws[q0]? = some (b, .inr (ci, fs))) (hc : cl[ci]? = some qc) (hq : qc.1 = C) (hsp : SP ws wc wr) (hst : (st.map fun v => v.category).sum ≤ 8) (hs0 : st0 = As.reverse ++ .ref b :: st) (hdg : decode cc pc = .ok (.invokevirtual index, 3)) (hf : ce + mc ≤ R.cells ∧ sl + ms ≤ R.slots) (kk : ∀ (r : Int32) (u : σ), post r u → JJ p l e R s m args below meth c D cl A nL (ce + mc) (sl + ms) Q (wr ++ wf u) lv (.int r :: st) (pc + 3)) : JJ p l e R s m args below meth c D cl A nL ce sl Q ws lv st0 pc := by
  intro H locs ls hP hD hS h
  subst hs0; subst hq
  obtain ⟨hx, hb, hml, hown, hts, hK, hA⟩ := K
  have hFc := hsp.F hD hS hA
  refine va_calli (va_runV (As := As) (rest := st) ⟨hx, hb, hml, hown, hts⟩ (hM H.size) (cwV n hts hG rfl hrm.1 hrm.2 hd hR) ⟨Pm_blind, va_recv hK hP hc he, fun U hU hW => ⟨rfl, by rw [hU], by rw [hU]; exact hsp.P hP, va_K.moved hW.alike hK, (hsp.D hD).weaken (fun _ _ _ _ => trivial)⟩⟩ rfl hn h.1 rfl (lv_room hst) hdg hf) hS (fun q _ h => hFc q h) hFc (fun r u t H1 locs1 ht hvm hw hB hz1 hk1 hS1 => ?_)
  obtain ⟨hP1, hK1, hD1⟩ := hB
  rw [ht] at hP1
  obtain ⟨hP2, hD2⟩ := hsp.J hP hD hk1 hFc hP1 hD1
  exact kk r u hw H1 locs1 ls hP2 hD2 hS1 h
theorem j_callSi (K : KK p s m args c cc nL own Ts D cl tys A) {σ : Type} {wf : σ → va_W} {post : Int32 → σ → Prop} {y : MethodName} {bytes : ByteArray} {maxL : Nat} {ret : Option FieldType} {ws' : List Cond} {rm : Room} {mc ms n index : Nat} {As : List Value} {wc wr : va_W} {st0 : List Value} (hM : ∀ sz, Met l y (.code y bytes maxL ret :: ws') rm (Pm D cl tys As wc sz) (va_Qi post (Bm D cl tys (va_A wc sz) wf) (va_A wc sz)) mc ms (va_A wc sz)) (hG : GoodIn Ts (va_wsS own index y (.code y bytes maxL ret :: ws'))) (hrm : rm.cells = mc ∧ rm.slots = ms) (hd : y.cls ≠ "java/lang/invoke/MethodHandle" ∧ y.cls ≠ "java/lang/invoke/VarHandle" ∧ (parseMethodDescriptor y.desc).map (fun d => d.parameters.length) = some n) (hR : rm.frames + 1 ≤ R.frames ∧ 8 + (maxL + 11) + rm.locals ≤ R.locals) (hn : As.length = n) (hsp : SP ws wc wr) (hst : (st.map fun v => v.category).sum ≤ 8) (hs0 : st0 = As.reverse ++ st) (hdg : decode cc pc = .ok (.invokestatic index, 3)) (hf : ce + mc ≤ R.cells ∧ sl + ms ≤ R.slots) (kk : ∀ (r : Int32) (u : σ), post r u → JJ p l e R s m args below meth c D cl A nL (ce + mc) (sl + ms) Q (wr ++ wf u) lv (.int r :: st) (pc + 3)) : JJ p l e R s m args below meth c D cl A nL ce sl Q ws lv st0 pc := by
  intro H locs ls hP hD hS h
  subst hs0
  obtain ⟨hx, hb, hml, hown, hts, hK, hA⟩ := K
  have hFc := hsp.F hD hS hA
  refine va_calli (va_runS (As := As) (rest := st) ⟨hx, hb, hml, hown, hts⟩ (hM H.size) (va_cwS n hts hG rfl hrm.1 hrm.2 hd hR) ⟨Pm_blind, fun U hU hW => ⟨rfl, by rw [hU], by rw [hU]; exact hsp.P hP, va_K.moved hW.alike hK, (hsp.D hD).weaken (fun _ _ _ _ => trivial)⟩⟩ rfl hn h.1 rfl (lv_room hst) hdg hf) hS (fun q _ h => hFc q h) hFc (fun r u t H1 locs1 ht hvm hw hB hz1 hk1 hS1 => ?_)
  obtain ⟨hP1, hK1, hD1⟩ := hB
  rw [ht] at hP1
  obtain ⟨hP2, hD2⟩ := hsp.J hP hD hk1 hFc hP1 hD1
  exact kk r u hw H1 locs1 ls hP2 hD2 hS1 h
theorem j_callVl (K : KK p s m args c cc nL own Ts D cl tys A) {σ : Type} {wf : σ → va_W} {post : Int64 → σ → Prop} {y : MethodName} {bytes : ByteArray} {maxL : Nat} {ret : Option FieldType} {ws' : List Cond} {rm : Room} {mc ms n index : Nat} {As : List Value} {wc wr : va_W} {st0 : List Value} {C : String} {b : Nat} (hM : ∀ sz, Met l y (.code y bytes maxL ret :: ws') rm (Pm D cl tys (.ref b :: As) wc sz) (va_Ql post (Bm D cl tys (va_A wc sz) wf) (va_A wc sz)) mc ms (va_A wc sz)) (hG : GoodIn Ts (wsV own index C y (.code y bytes maxL ret :: ws'))) (hrm : rm.cells = mc ∧ rm.slots = ms) (hd : y.cls = C ∧ y.cls ≠ "java/lang/invoke/MethodHandle" ∧ y.cls ≠ "java/lang/invoke/VarHandle" ∧ (parseMethodDescriptor y.desc).map (fun d => d.parameters.length) = some n) (hR : rm.frames + 1 ≤ R.frames ∧ 8 + (maxL + 11) + rm.locals ≤ R.locals) (hn : As.length = n) (q0 : Nat) {ci : Nat} {qc : vw_C} {fs : List Value} (he : ws[q0]? = some (b, .inr (ci, fs))) (hc : cl[ci]? = some qc) (hq : qc.1 = C) (hsp : SP ws wc wr) (hst : (st.map fun v => v.category).sum ≤ 8) (hs0 : st0 = As.reverse ++ .ref b :: st) (hdg : decode cc pc = .ok (.invokevirtual index, 3)) (hf : ce + mc ≤ R.cells ∧ sl + ms ≤ R.slots) (kk : ∀ (r : Int64) (u : σ), post r u → JJ p l e R s m args below meth c D cl A nL (ce + mc) (sl + ms) Q (wr ++ wf u) lv (.long r :: st) (pc + 3)) : JJ p l e R s m args below meth c D cl A nL ce sl Q ws lv st0 pc := by
  intro H locs ls hP hD hS h
  subst hs0; subst hq
  obtain ⟨hx, hb, hml, hown, hts, hK, hA⟩ := K
  have hFc := hsp.F hD hS hA
  refine va_calll (va_runV (As := As) (rest := st) ⟨hx, hb, hml, hown, hts⟩ (hM H.size) (cwV n hts hG rfl hrm.1 hrm.2 hd hR) ⟨Pm_blind, va_recv hK hP hc he, fun U hU hW => ⟨rfl, by rw [hU], by rw [hU]; exact hsp.P hP, va_K.moved hW.alike hK, (hsp.D hD).weaken (fun _ _ _ _ => trivial)⟩⟩ rfl hn h.1 rfl (lv_room hst) hdg hf) hS (fun q _ h => hFc q h) hFc (fun r u t H1 locs1 ht hvm hw hB hz1 hk1 hS1 => ?_)
  obtain ⟨hP1, hK1, hD1⟩ := hB
  rw [ht] at hP1
  obtain ⟨hP2, hD2⟩ := hsp.J hP hD hk1 hFc hP1 hD1
  exact kk r u hw H1 locs1 ls hP2 hD2 hS1 h
theorem j_callSl (K : KK p s m args c cc nL own Ts D cl tys A) {σ : Type} {wf : σ → va_W} {post : Int64 → σ → Prop} {y : MethodName} {bytes : ByteArray} {maxL : Nat} {ret : Option FieldType} {ws' : List Cond} {rm : Room} {mc ms n index : Nat} {As : List Value} {wc wr : va_W} {st0 : List Value} (hM : ∀ sz, Met l y (.code y bytes maxL ret :: ws') rm (Pm D cl tys As wc sz) (va_Ql post (Bm D cl tys (va_A wc sz) wf) (va_A wc sz)) mc ms (va_A wc sz)) (hG : GoodIn Ts (va_wsS own index y (.code y bytes maxL ret :: ws'))) (hrm : rm.cells = mc ∧ rm.slots = ms) (hd : y.cls ≠ "java/lang/invoke/MethodHandle" ∧ y.cls ≠ "java/lang/invoke/VarHandle" ∧ (parseMethodDescriptor y.desc).map (fun d => d.parameters.length) = some n) (hR : rm.frames + 1 ≤ R.frames ∧ 8 + (maxL + 11) + rm.locals ≤ R.locals) (hn : As.length = n) (hsp : SP ws wc wr) (hst : (st.map fun v => v.category).sum ≤ 8) (hs0 : st0 = As.reverse ++ st) (hdg : decode cc pc = .ok (.invokestatic index, 3)) (hf : ce + mc ≤ R.cells ∧ sl + ms ≤ R.slots) (kk : ∀ (r : Int64) (u : σ), post r u → JJ p l e R s m args below meth c D cl A nL (ce + mc) (sl + ms) Q (wr ++ wf u) lv (.long r :: st) (pc + 3)) : JJ p l e R s m args below meth c D cl A nL ce sl Q ws lv st0 pc := by
  intro H locs ls hP hD hS h
  subst hs0
  obtain ⟨hx, hb, hml, hown, hts, hK, hA⟩ := K
  have hFc := hsp.F hD hS hA
  refine va_calll (va_runS (As := As) (rest := st) ⟨hx, hb, hml, hown, hts⟩ (hM H.size) (va_cwS n hts hG rfl hrm.1 hrm.2 hd hR) ⟨Pm_blind, fun U hU hW => ⟨rfl, by rw [hU], by rw [hU]; exact hsp.P hP, va_K.moved hW.alike hK, (hsp.D hD).weaken (fun _ _ _ _ => trivial)⟩⟩ rfl hn h.1 rfl (lv_room hst) hdg hf) hS (fun q _ h => hFc q h) hFc (fun r u t H1 locs1 ht hvm hw hB hz1 hk1 hS1 => ?_)
  obtain ⟨hP1, hK1, hD1⟩ := hB
  rw [ht] at hP1
  obtain ⟨hP2, hD2⟩ := hsp.J hP hD hk1 hFc hP1 hD1
  exact kk r u hw H1 locs1 ls hP2 hD2 hS1 h
theorem j_callVv (K : KK p s m args c cc nL own Ts D cl tys A) {σ : Type} {wf : σ → va_W} {post : σ → Prop} {y : MethodName} {bytes : ByteArray} {maxL : Nat} {ret : Option FieldType} {ws' : List Cond} {rm : Room} {mc ms n index : Nat} {As : List Value} {wc wr : va_W} {st0 : List Value} {C : String} {b : Nat} (hM : ∀ sz, Met l y (.code y bytes maxL ret :: ws') rm (Pm D cl tys (.ref b :: As) wc sz) (va_Qv post (Bm D cl tys (va_A wc sz) wf) (va_A wc sz)) mc ms (va_A wc sz)) (hG : GoodIn Ts (wsV own index C y (.code y bytes maxL ret :: ws'))) (hrm : rm.cells = mc ∧ rm.slots = ms) (hd : y.cls = C ∧ y.cls ≠ "java/lang/invoke/MethodHandle" ∧ y.cls ≠ "java/lang/invoke/VarHandle" ∧ (parseMethodDescriptor y.desc).map (fun d => d.parameters.length) = some n) (hR : rm.frames + 1 ≤ R.frames ∧ 8 + (maxL + 11) + rm.locals ≤ R.locals) (hn : As.length = n) (q0 : Nat) {ci : Nat} {qc : vw_C} {fs : List Value} (he : ws[q0]? = some (b, .inr (ci, fs))) (hc : cl[ci]? = some qc) (hq : qc.1 = C) (hsp : SP ws wc wr) (hst : (st.map fun v => v.category).sum ≤ 8) (hs0 : st0 = As.reverse ++ .ref b :: st) (hdg : decode cc pc = .ok (.invokevirtual index, 3)) (hf : ce + mc ≤ R.cells ∧ sl + ms ≤ R.slots) (kk : ∀ (u : σ), post u → JJ p l e R s m args below meth c D cl A nL (ce + mc) (sl + ms) Q (wr ++ wf u) lv st (pc + 3)) : JJ p l e R s m args below meth c D cl A nL ce sl Q ws lv st0 pc := by
  intro H locs ls hP hD hS h
  subst hs0; subst hq
  obtain ⟨hx, hb, hml, hown, hts, hK, hA⟩ := K
  have hFc := hsp.F hD hS hA
  refine va_callv (va_runV (As := As) (rest := st) ⟨hx, hb, hml, hown, hts⟩ (hM H.size) (cwV n hts hG rfl hrm.1 hrm.2 hd hR) ⟨Pm_blind, va_recv hK hP hc he, fun U hU hW => ⟨rfl, by rw [hU], by rw [hU]; exact hsp.P hP, va_K.moved hW.alike hK, (hsp.D hD).weaken (fun _ _ _ _ => trivial)⟩⟩ rfl hn h.1 rfl (lv_room hst) hdg hf) hS (fun q _ h => hFc q h) hFc (fun u t H1 locs1 ht hvm hw hB hz1 hk1 hS1 => ?_)
  obtain ⟨hP1, hK1, hD1⟩ := hB
  rw [ht] at hP1
  obtain ⟨hP2, hD2⟩ := hsp.J hP hD hk1 hFc hP1 hD1
  exact kk u hw H1 locs1 ls hP2 hD2 hS1 h
theorem j_callSv (K : KK p s m args c cc nL own Ts D cl tys A) {σ : Type} {wf : σ → va_W} {post : σ → Prop} {y : MethodName} {bytes : ByteArray} {maxL : Nat} {ret : Option FieldType} {ws' : List Cond} {rm : Room} {mc ms n index : Nat} {As : List Value} {wc wr : va_W} {st0 : List Value} (hM : ∀ sz, Met l y (.code y bytes maxL ret :: ws') rm (Pm D cl tys As wc sz) (va_Qv post (Bm D cl tys (va_A wc sz) wf) (va_A wc sz)) mc ms (va_A wc sz)) (hG : GoodIn Ts (va_wsS own index y (.code y bytes maxL ret :: ws'))) (hrm : rm.cells = mc ∧ rm.slots = ms) (hd : y.cls ≠ "java/lang/invoke/MethodHandle" ∧ y.cls ≠ "java/lang/invoke/VarHandle" ∧ (parseMethodDescriptor y.desc).map (fun d => d.parameters.length) = some n) (hR : rm.frames + 1 ≤ R.frames ∧ 8 + (maxL + 11) + rm.locals ≤ R.locals) (hn : As.length = n) (hsp : SP ws wc wr) (hst : (st.map fun v => v.category).sum ≤ 8) (hs0 : st0 = As.reverse ++ st) (hdg : decode cc pc = .ok (.invokestatic index, 3)) (hf : ce + mc ≤ R.cells ∧ sl + ms ≤ R.slots) (kk : ∀ (u : σ), post u → JJ p l e R s m args below meth c D cl A nL (ce + mc) (sl + ms) Q (wr ++ wf u) lv st (pc + 3)) : JJ p l e R s m args below meth c D cl A nL ce sl Q ws lv st0 pc := by
  intro H locs ls hP hD hS h
  subst hs0
  obtain ⟨hx, hb, hml, hown, hts, hK, hA⟩ := K
  have hFc := hsp.F hD hS hA
  refine va_callv (va_runS (As := As) (rest := st) ⟨hx, hb, hml, hown, hts⟩ (hM H.size) (va_cwS n hts hG rfl hrm.1 hrm.2 hd hR) ⟨Pm_blind, fun U hU hW => ⟨rfl, by rw [hU], by rw [hU]; exact hsp.P hP, va_K.moved hW.alike hK, (hsp.D hD).weaken (fun _ _ _ _ => trivial)⟩⟩ rfl hn h.1 rfl (lv_room hst) hdg hf) hS (fun q _ h => hFc q h) hFc (fun u t H1 locs1 ht hvm hw hB hz1 hk1 hS1 => ?_)
  obtain ⟨hP1, hK1, hD1⟩ := hB
  rw [ht] at hP1
  obtain ⟨hP2, hD2⟩ := hsp.J hP hD hk1 hFc hP1 hD1
  exact kk u hw H1 locs1 ls hP2 hD2 hS1 h
end JCalls
/-! every word of the tables may be handed on -/
def lw_gt : List Cond := lw_tbl.filter goodWord
theorem lw_good {w : Cond} (h : w ∈ lw_gt) : (w.onTables && w.keeps) = true ∨ ∃ ty, w = .arrayClass ty := good_of_word (List.mem_filter.mp h).2
theorem lw_at {w : Cond} (i : Nat) (h : lw_tbl[i]? = some w) (hg : goodWord w = true) : w ∈ lw_gt := List.mem_filter.mpr ⟨List.mem_of_getElem? h, hg⟩
theorem gd_tab {y0 y : MethodName} {c0 bytes : ByteArray} {n0 maxL : Nat} {r0 ret : Option FieldType} (h5 : Cond.code y bytes maxL ret ∈ lw_gt) : GoodIn (.code y0 c0 n0 r0 :: lw_gt) (.code y bytes maxL ret :: lw_gt) := fun w hw => (List.mem_cons.mp hw).elim (fun e => by subst e; exact ⟨List.mem_cons_of_mem _ h5, lw_good h5⟩) (fun h => ⟨List.mem_cons_of_mem _ h, lw_good h⟩)
theorem gd_in {y0 : MethodName} {c0 : ByteArray} {n0 : Nat} {r0 : Option FieldType} {ws : List Cond} (h : ∀ w ∈ ws, w ∈ lw_gt) : GoodIn (.code y0 c0 n0 r0 :: lw_gt) ws := fun w hw => ⟨List.mem_cons_of_mem _ (h w hw), lw_good (h w hw)⟩
theorem gdV {y0 y : MethodName} {c0 bytes : ByteArray} {n0 maxL index : Nat} {r0 ret : Option FieldType} {own C : String} (h1 : Cond.methodLink own index y ∈ lw_gt) (h2 : Cond.instanceMethod y ∈ lw_gt) (h3 : Cond.selects C y y ∈ lw_gt) (h4 : Cond.initialized C ∈ lw_gt) (h5 : Cond.code y bytes maxL ret ∈ lw_gt) : GoodIn (.code y0 c0 n0 r0 :: lw_gt) (wsV own index C y (.code y bytes maxL ret :: lw_gt)) := fun w hw => (List.mem_append.mp hw).elim (fun h => gd_in (ws := [.methodLink own index y, .instanceMethod y, .selects C y y, .initialized C]) (List.forall_mem_cons.mpr ⟨h1, List.forall_mem_cons.mpr ⟨h2, List.forall_mem_cons.mpr ⟨h3, List.forall_mem_cons.mpr ⟨h4, fun _ h => absurd h List.not_mem_nil⟩⟩⟩⟩) w h) (fun h => gd_tab h5 w h)
theorem gdS {y0 y : MethodName} {c0 bytes : ByteArray} {n0 maxL index : Nat} {r0 ret : Option FieldType} {own : String} (h1 : Cond.methodLink own index y ∈ lw_gt) (h2 : Cond.static y ∈ lw_gt) (h4 : Cond.initialized y.cls ∈ lw_gt) (h5 : Cond.code y bytes maxL ret ∈ lw_gt) : GoodIn (.code y0 c0 n0 r0 :: lw_gt) (va_wsS own index y (.code y bytes maxL ret :: lw_gt)) := fun w hw => (List.mem_append.mp hw).elim (fun h => gd_in (ws := [.methodLink own index y, .static y, .initialized y.cls]) (List.forall_mem_cons.mpr ⟨h1, List.forall_mem_cons.mpr ⟨h2, List.forall_mem_cons.mpr ⟨h4, fun _ h => absurd h List.not_mem_nil⟩⟩⟩) w h) (fun h => gd_tab h5 w h)
