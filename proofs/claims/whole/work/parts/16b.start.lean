def κE : Cz := ([], fun _ => 0, fun _ => 0, fun _ _ => 0, fun _ _ => none, fun _ _ => 0, fun _ _ => 0, fun _ _ => none)
theorem j_new {p : Program} {l : Launch} {e : Env} {R : Room} {s : State} {m : MethodId} {args : Array Value} {below : List Frame} {meth : Method} {c : Code} {cc : ByteArray} {nL ce sl : Nat} {own : String} {Ts : List Cond} {D : va_G} {cl : List vw_C} {tys : List (ClassId × FieldType)} {A : Nat → Prop} {Q : State → Prop} {ws : va_W} {lv : List (Nat × Value)} {st : List Value} {pc : Nat} (K : KK p s m args c cc nL own Ts D cl tys A) {C : String} {T : u_T} {N ci index : Nat} (hin : ∀ w ∈ u_ws C T N, w ∈ Ts) (ty : Nat → FieldType) (hty : ∀ k, k < N → parseFieldDescriptor (T k).2.2.1 = some (ty k)) (hcl : Cond.classLink own index C ∈ Ts) (hinst : Cond.instantiable C N ∈ Ts) (hini : Cond.initialized C ∈ Ts) (hc : cl[ci]? = some (C, T, N)) {fs : List Value} (hfs : ∀ j, j < N → defaultValue (ty j) = vp_V fs j) (hce : ce + 1 ≤ R.cells) (hsl : sl + N ≤ R.slots) (hdg : decode cc pc = .ok (.new index, 3)) (kk : ∀ q, JJ p l e R s m args below meth c D cl A nL (ce + 1) (sl + N) Q (ws ++ [(q, .inr (ci, fs))]) lv (.ref q :: st) (pc + 3)) : JJ p l e R s m args below meth c D cl A nL ce sl Q ws lv st pc := fun H locs ls hP hD hS h => va_new K.1 K.2.1 K.2.2.2.2.1 hin ty hty K.2.2.2.1 (K.2.2.2.2.1 _ hcl) (K.2.2.2.2.1 _ hinst) (K.2.2.2.2.1 _ hini) K.2.2.2.2.2.1 hP hD hS K.2.2.2.2.2.2 hc hfs hce hsl hdg (fun q H1 p1 d1 s1 => kk q H1 locs ls p1 d1 s1 h)
section StartRows
variable {p : Program} {l : Launch} {e : Env} {s : State} {m : MethodId} {b : Nat} {below : List Frame} {meth : Method} {c : Code} {D : va_G} {θ : Tc} {η : Th} {A : Nat → Prop} {ce sl : Nat} {κ : Cz} {lv : List (Nat × Value)} {st : List Value} {pc : Nat}
theorem l_initE (K : KL p s m b c D θ η A) (hN : NX s) {x0 j : Nat} {post : Cz → Prop} (hM : CWv l D θ y_ErrataRow_init c_ErrataRow_init 1 none j 72 2752 [.ref x0] κ post) (hj : j ≤ 100) (hst : (st.map fun v => v.category).sum ≤ 8) (hdg : decode code pc = .ok (.invokespecial 9, 3)) (hf : ce + 72 ≤ room_1.cells ∧ sl + 2752 ≤ room_1.slots) (kk : ∀ κ1 : Cz, post κ1 → JJ p l e room_1 s m #[Value.ref b] below meth c D vwCl A 4 (ce + 72) (sl + 2752) (lw_Z below #[Value.ref b] s) (wE θ κ1) lv st (pc + 3)) : JJ p l e room_1 s m #[Value.ref b] below meth c D vwCl A 4 ce sl (lw_Z below #[Value.ref b] s) (wE θ κ) lv (.ref x0 :: st) pc := by
  intro H locs ls hP hD hS h
  obtain ⟨hx, hb9, hml, hown, hts, hK, hA⟩ := K
  have hsp := sp_all (wE θ κ)
  have hFc := hsp.F hD hS hA
  have hKc := hK.sub (tys' := tC θ) [0, 1, 2, 3, 4] rfl
  refine va_callv (va_runI (As := []) (rest := st) ⟨hx, hb9, hml, hown, hts⟩ (hM H.size) ⟨callB_of 0 hts (gL (fun w hw => by rcases List.mem_cons.mp hw with h | h; (· rw [h]; exact ec_ErrataRow_init); exact h)) rfl rfl rfl (hts _ (gL_gt ei_ErrataRow)) (hts _ (List.mem_of_getElem? (i := 149) (by decide +kernel))) eh_ErrataRow_init (rm_law hj (by decide)), rfl, hts _ (gL_gt ej_ErrataRow_init)⟩ ⟨PE_blind, fun U hU hW => ⟨rfl, by rw [hU], by rw [hU]; exact hP, va_K.moved hW.alike hKc, hD.weaken (fun _ _ _ _ => trivial), NX.warm hW hN⟩⟩ rfl rfl h.1 rfl (lv_room hst) hdg hf) hS (fun q _ h => hFc q h) hFc (fun u t H1 locs1 ht hvm hw hB hz1 hk1 hS1 => ?_)
  obtain ⟨hP1, hK1, hD1⟩ := hB
  rw [ht] at hP1
  obtain ⟨hP2, hD2⟩ := hsp.J hP hD hk1 hFc hP1 hD1
  exact kk u hw H1 locs1 ls hP2 hD2 hS1 h
theorem mj_init : Cond.instanceMethod y12_init ∈ lw_gt := lw_at 1224 (by decide +kernel) rfl
theorem mc_init : Cond.code y12_init c12_init 1 none ∈ lw_gt := lw_at 1225 (by decide +kernel) rfl
theorem mh_init : y12_init.cls ≠ "java/lang/invoke/MethodHandle" ∧ y12_init.cls ≠ "java/lang/invoke/VarHandle" ∧ (parseMethodDescriptor y12_init.desc).map (fun d => d.parameters.length) = some 0 := by decide +kernel
theorem l_initM {h0 : Nat} {cs : ClassId × ClassId × ClassId × ClassId} (K : KL p s m b c D θ (h0, fun _ => 0, cs) A) (hst : (st.map fun v => v.category).sum ≤ 8) (hdg : decode code pc = .ok (.invokespecial 12, 3)) (hf : ce + 23 ≤ room_1.cells ∧ sl + 5969 ≤ room_1.slots) (kk : ∀ ad : Nat → Nat, JJ p l e room_1 s m #[Value.ref b] below meth c D vwCl A 4 (ce + 23) (sl + 5969) (lw_Z below #[Value.ref b] s) (wE θ κ ++ wM (h0, ad, cs) μ0) lv st (pc + 3)) : JJ p l e room_1 s m #[Value.ref b] below meth c D vwCl A 4 ce sl (lw_Z below #[Value.ref b] s) (wE θ κ ++ [(h0, .inr (12, fM0))]) lv (.ref h0 :: st) pc := by
  intro H locs ls hP hD hS h
  obtain ⟨hx, hb9, hml, hown, hts, hK, hA⟩ := K
  have hsp := sp_app2 (wE θ κ) [(h0, .inr (12, fM0))]
  have hFc := hsp.F hD hS hA
  have hKc := hK.sub (tys' := tM (h0, fun _ => 0, cs)) [5, 6, 7, 8] rfl
  refine va_callv (va_runI (As := []) (rest := st) ⟨hx, hb9, hml, hown, hts⟩ (c12_init_ok l D h0 cs H.size) ⟨callB_of 0 hts (gL (fun w hw => by rcases List.mem_cons.mp hw with h | h; (· rw [h]; exact mc_init); exact h)) rfl rfl rfl (hts _ (gL_gt mi_X12)) (hts _ (List.mem_of_getElem? (i := 1223) (by decide +kernel))) mh_init (rm_law (by decide) (by decide)), rfl, hts _ (gL_gt mj_init)⟩ ⟨Pm_blind, fun U hU hW => ⟨rfl, by rw [hU], by rw [hU]; exact hsp.P hP, va_K.moved hW.alike hKc, (hsp.D hD).weaken (fun _ _ _ _ => trivial)⟩⟩ rfl rfl h.1 rfl (lv_room hst) hdg hf) hS (fun q _ h => hFc q h) hFc (fun u t H1 locs1 ht hvm hw hB hz1 hk1 hS1 => ?_)
  obtain ⟨hP1, hK1, hD1⟩ := hB
  rw [ht] at hP1
  obtain ⟨hP2, hD2⟩ := hsp.J hP hD hk1 hFc hP1 hD1
  exact kk u H1 locs1 ls hP2 hD2 hS1 h
end StartRows
theorem NX_start {s : State} {args : Array Value} (hts : ∀ w ∈ lw_tbl, w.before args s = true) : NX s := ⟨va_Nw.of rfl (hts _ (List.mem_of_getElem? (i := 157) (by decide +kernel))), va_Nw.of rfl (hts _ (List.mem_of_getElem? (i := 201) (by decide +kernel))), va_Nw.of rfl (hts _ (List.mem_of_getElem? (i := 207) (by decide +kernel))), va_Nw.of rfl (hts _ (List.mem_of_getElem? (i := 330) (by decide +kernel))), va_Nw.of rfl (hts _ (List.mem_of_getElem? (i := 335) (by decide +kernel))), va_Nw.of rfl (hts _ (List.mem_of_getElem? (i := 337) (by decide +kernel))), va_Nw.of rfl (hts _ (List.mem_of_getElem? (i := 340) (by decide +kernel))), va_Nw.of rfl (hts _ (List.mem_of_getElem? (i := 383) (by decide +kernel))), va_Nw.of rfl (hts _ (List.mem_of_getElem? (i := 436) (by decide +kernel))), va_Nw.of rfl (hts _ (List.mem_of_getElem? (i := 456) (by decide +kernel))), va_Nw.of rfl (hts _ (List.mem_of_getElem? (i := 884) (by decide +kernel))), va_Nw.of rfl (hts _ (List.mem_of_getElem? (i := 895) (by decide +kernel))), va_Nw.of rfl (hts _ (List.mem_of_getElem? (i := 1047) (by decide +kernel))), va_AO.of (hts _ (List.mem_of_getElem? (i := 327) (by decide +kernel))), va_AO.of (hts _ (List.mem_of_getElem? (i := 388) (by decide +kernel))), va_AO.of (hts _ (List.mem_of_getElem? (i := 380) (by decide +kernel))), va_Nw.of rfl (hts _ (List.mem_of_getElem? (i := 822) (by decide +kernel))), trivial⟩
def tmS (i : Nat) : Term := .string "ErrataRow$Tokens" ([78, 70].getD i 0)
abbrev gvF : List Cond := flatC (Jvm.Cond.and given_1 narrow_1)
set_option maxRecDepth 100000 in
theorem gv_el : ∀ i, i < 2 → ∀ j, j < lenS.getD i 0 → Cond.eq (.elem (.field (tmS i) "java/lang/String" "value" "[B") (.int (Int32.ofNat j))) (.int ((bytS.getD i []).getD j 0)) ∈ gvF := by decide +kernel
theorem gv_ex : ∀ i, i < 2 → Cond.exactly (tmS i) "java/lang/String" ∈ gvF := by decide +kernel
theorem gv_co : ∀ i, i < 2 → Cond.eq (.field (tmS i) "java/lang/String" "coder" "B") (.int 0) ∈ gvF := by decide +kernel
theorem gv_ar : ∀ i, i < 2 → Cond.arrayOf (.field (tmS i) "java/lang/String" "value" "[B") .byte ∈ gvF := by decide +kernel
theorem gv_le : ∀ i, i < 2 → Cond.eq (.length (.field (tmS i) "java/lang/String" "value" "[B")) (.int (Int32.ofNat (lenS.getD i 0))) ∈ gvF := by decide +kernel
theorem gv_ne : ∀ i j, i < 2 → j < 2 → i ≠ j → Cond.not (Cond.eq (tmS i) (tmS j)) ∈ gvF ∨ Cond.not (Cond.eq (tmS j) (tmS i)) ∈ gvF := by
  intro i j hi hj hij
  rcases (show (i = 0 ∧ j = 1) ∨ (i = 1 ∧ j = 0) by omega) with ⟨rfl, rfl⟩ | ⟨rfl, rfl⟩ <;> decide +kernel
theorem gv_z1 : Cond.eq (.static "java/lang/String" "COMPACT_STRINGS" "Z") (.int 1) ∈ gvF := by decide +kernel
theorem gv_z2 : Cond.isRef (.static "jdk/internal/util/Preconditions" "SIOOBE_FORMATTER" "Ljava/util/function/BiFunction;") ∈ gvF := by decide +kernel
set_option maxHeartbeats 1000000 in
theorem SC_start {s : State} {args : Array Value} {A : Nat → Prop} (hts : ∀ w ∈ lw_tbl, w.before args s = true) (hgv : (Jvm.Cond.and given_1 narrow_1).before args s = true) (hA : ∀ a : Nat, a < s.heap.size → ¬ A a) : ∃ ad : Ad, SC ad A s s.heap := by
  have hs := flat_of_before _ hgv
  obtain ⟨adK, adV, h1, h2⟩ := vk_Sof (N := 2) (tm := tmS) (len := lenS) (byt := bytS) (A := A) (by decide) (fun i hi => hs _ (gv_ex i hi)) (fun i hi => hs _ (gv_co i hi)) (fun i hi => hs _ (gv_ar i hi)) (fun i hi => hs _ (gv_le i hi)) (fun i hi j hj => hs _ (gv_el i hi j hj)) (fun i j hi hj hij => (gv_ne i j hi hj hij).imp (fun z => hs _ z) (fun z => hs _ z)) hA
  have z1 := va_Zof (A := A) (hts (.laysStatic "java/lang/String" "COMPACT_STRINGS" "Z") (List.mem_of_getElem? (i := 561) (by decide +kernel))) (hts _ (gL_gt ei_String)) (va_eqt (hs _ gv_z1)) hA
  have z2 := va_Zqof (A := A) (hts (.laysStatic "jdk/internal/util/Preconditions" "SIOOBE_FORMATTER" "Ljava/util/function/BiFunction;") (List.mem_of_getElem? (i := 577) (by decide +kernel))) (hts _ (gL_gt ei_Preconditions)) (hs _ gv_z2) hA
  have hR : vk_R "ErrataRow$Tokens" 78 "letter put meant over loose wrong paid purse owed from to edition book habit hangs mend if or and not " (adK 0) s ∧ vk_R "ErrataRow$Tokens" 70 ";<=>+-*/%[]" (adK 1) s := ⟨vk_R.of (hts _ (List.mem_of_getElem? (i := 551) (by decide +kernel))) (h2 0 (by decide)), vk_R.of (hts _ (List.mem_of_getElem? (i := 607) (by decide +kernel))) (h2 1 (by decide))⟩
  rcases z2 with z2 | ⟨t, z2⟩
  · exact ⟨(adK, adV, none), h1, hR.1, hR.2, z1, z2⟩
  · exact ⟨(adK, adV, some t), h1, hR.1, hR.2, z1, z2⟩
set_option maxHeartbeats 1000000 in
theorem K_start {s : State} {args : Array Value} (hts : ∀ w ∈ lw_tbl, w.before args s = true) : ∃ (D : va_G) (θ : Tc) (cs : ClassId × ClassId × ClassId × ClassId), ∀ h0 : Nat, va_K D vwCl (tC θ ++ tM (h0, fun _ => 0, cs)) s := by
  obtain ⟨c0, i0, k0⟩ := u_known (C := RX0) (T := TX0) (N := 8) (n := 8) hts (fun w h => gL_gt (inX0 w h)) (hts (.instantiable "ErrataRow$Book" 8) (List.mem_of_getElem? (i := 200) (by decide +kernel)))
  obtain ⟨c1, i1, k1⟩ := u_known (C := RX1) (T := TX1) (N := 2) (n := 2) hts (fun w h => gL_gt (inX1 w h)) (hts (.instantiable "ErrataRow$BookReader" 2) (List.mem_of_getElem? (i := 194) (by decide +kernel)))
  obtain ⟨c2, i2, k2⟩ := u_known (C := RX2) (T := TX2) (N := 3) (n := 3) hts (fun w h => gL_gt (inX2 w h)) (hts (.instantiable "ErrataRow$History" 3) (List.mem_of_getElem? (i := 382) (by decide +kernel)))
  obtain ⟨c3, i3, k3⟩ := u_known (C := RX3) (T := TX3) (N := 4) (n := 4) hts (fun w h => gL_gt (inX3 w h)) (hts (.instantiable "ErrataRow$Notes" 4) (List.mem_of_getElem? (i := 339) (by decide +kernel)))
  obtain ⟨c4, i4, k4⟩ := u_known (C := RX4) (T := TX4) (N := 6) (n := 6) hts (fun w h => gL_gt (inX4 w h)) (hts (.instantiable "ErrataRow$Press" 6) (List.mem_of_getElem? (i := 401) (by decide +kernel)))
  obtain ⟨c5, i5, k5⟩ := u_known (C := RX5) (T := TX5) (N := 5) (n := 5) hts (fun w h => gL_gt (inX5 w h)) (hts (.instantiable "ErrataRow$RowSearch" 5) (List.mem_of_getElem? (i := 430) (by decide +kernel)))
  obtain ⟨c6, i6, k6⟩ := u_known (C := RX6) (T := TX6) (N := 4) (n := 4) hts (fun w h => gL_gt (inX6 w h)) (hts (.instantiable "ErrataRow$Rule" 4) (List.mem_of_getElem? (i := 813) (by decide +kernel)))
  obtain ⟨c7, i7, k7⟩ := u_known (C := RX7) (T := TX7) (N := 7) (n := 7) hts (fun w h => gL_gt (inX7 w h)) (hts (.instantiable "ErrataRow$RuleReader" 7) (List.mem_of_getElem? (i := 299) (by decide +kernel)))
  obtain ⟨c8, i8, k8⟩ := u_known (C := RX8) (T := TX8) (N := 6) (n := 6) hts (fun w h => gL_gt (inX8 w h)) (hts (.instantiable "ErrataRow$State" 6) (List.mem_of_getElem? (i := 206) (by decide +kernel)))
  obtain ⟨c9, i9, k9⟩ := u_known (C := RX9) (T := TX9) (N := 8) (n := 8) hts (fun w h => gL_gt (inX9 w h)) (hts (.instantiable "ErrataRow$Tokens" 8) (List.mem_of_getElem? (i := 156) (by decide +kernel)))
  obtain ⟨c10, i10, k10⟩ := u_known (C := RX10) (T := TX10) (N := 5) (n := 5) hts (fun w h => gL_gt (inX10 w h)) (hts (.instantiable "ErrataRow$World" 5) (List.mem_of_getElem? (i := 329) (by decide +kernel)))
  obtain ⟨c11, i11, k11⟩ := u_known (C := RX11) (T := TX11) (N := 16) (n := 16) hts (fun w h => gL_gt (inX11 w h)) (hts (.instantiable "ErrataRow" 16) (List.mem_of_getElem? (i := 148) (by decide +kernel)))
  obtain ⟨c12, i12, k12⟩ := u_known (C := RX12) (T := TX12) (N := 41) (n := 41) hts (fun w h => gL_gt (inM w h)) (hts (.instantiable "ErrataRowModel" 41) (List.mem_of_getElem? (i := 1222) (by decide +kernel)))
  obtain ⟨c_int, q_int, m_int, f1_int, f2_int, f3_int⟩ := Cond.arrayClass_spec (hts (.arrayClass .int) (gL_gt ea_int))
  obtain ⟨c_long, q_long, m_long, f1_long, f2_long, f3_long⟩ := Cond.arrayClass_spec (hts (.arrayClass .long) (gL_gt ea_long))
  obtain ⟨c_byte, q_byte, m_byte, f1_byte, f2_byte, f3_byte⟩ := Cond.arrayClass_spec (hts (.arrayClass .byte) (gL_gt ea_byte))
  obtain ⟨c_boolean, q_boolean, m_boolean, f1_boolean, f2_boolean, f3_boolean⟩ := Cond.arrayClass_spec (hts (.arrayClass .boolean) (gL_gt ea_boolean))
  obtain ⟨m_r0, c_r0, q_r0, g1_0, g2_0, g3_0, g4_0, g5_0⟩ := Cond.arrayOver_spec (hts (.arrayOver (.object "ErrataRow$Rule")) (List.mem_of_getElem? (i := 327) (by decide +kernel)))
  obtain ⟨m_r1, c_r1, q_r1, g1_1, g2_1, g3_1, g4_1, g5_1⟩ := Cond.arrayOver_spec (hts (.arrayOver (.object "ErrataRow$State")) (List.mem_of_getElem? (i := 388) (by decide +kernel)))
  obtain ⟨m_r2, c_r2, q_r2, g1_2, g2_2, g3_2, g4_2, g5_2⟩ := Cond.arrayOver_spec (hts (.arrayOver (.object "ErrataRow$World")) (List.mem_of_getElem? (i := 380) (by decide +kernel)))
  refine ⟨(fun k => [c0, c1, c2, c3, c4, c5, c6, c7, c8, c9, c10, c11, c12].getD k 0, fun k => [i0, i1, i2, i3, i4, i5, i6, i7, i8, i9, i10, i11, i12].getD k (fun _ => 0)), fun k => [c_int, c_long, c_r0, c_r1, c_r2].getD k 0, (c_byte, c_int, c_long, c_boolean), fun h0 => ⟨?_, ?_⟩⟩
  · intro k q hq
    match k, hq with
    | 0, hq => cases hq; exact k0
    | 1, hq => cases hq; exact k1
    | 2, hq => cases hq; exact k2
    | 3, hq => cases hq; exact k3
    | 4, hq => cases hq; exact k4
    | 5, hq => cases hq; exact k5
    | 6, hq => cases hq; exact k6
    | 7, hq => cases hq; exact k7
    | 8, hq => cases hq; exact k8
    | 9, hq => cases hq; exact k9
    | 10, hq => cases hq; exact k10
    | 11, hq => cases hq; exact k11
    | 12, hq => cases hq; exact k12
    | k + 13, hq => simp [vwCl] at hq
  · intro k q hq
    match k, hq with
    | 0, hq => cases hq; exact ⟨fun n z => ⟨fun k h => (by cases h), q_int, f2_int, m_int, f3_int⟩, f1_int⟩
    | 1, hq => cases hq; exact ⟨fun n z => ⟨fun k h => (by cases h), q_long, f2_long, m_long, f3_long⟩, f1_long⟩
    | 2, hq => cases hq; exact ⟨fun n z => ⟨fun k h => (by cases h), q_r0, g3_0, m_r0, g4_0⟩, q_r0, m_r0, g3_0, g4_0, g1_0, g5_0⟩
    | 3, hq => cases hq; exact ⟨fun n z => ⟨fun k h => (by cases h), q_r1, g3_1, m_r1, g4_1⟩, q_r1, m_r1, g3_1, g4_1, g1_1, g5_1⟩
    | 4, hq => cases hq; exact ⟨fun n z => ⟨fun k h => (by cases h), q_r2, g3_2, m_r2, g4_2⟩, q_r2, m_r2, g3_2, g4_2, g1_2, g5_2⟩
    | 5, hq => cases hq; exact ⟨fun n z => ⟨fun k h => (by cases h), q_byte, f2_byte, m_byte, f3_byte⟩, f1_byte⟩
    | 6, hq => cases hq; exact ⟨fun n z => ⟨fun k h => (by cases h), q_int, f2_int, m_int, f3_int⟩, f1_int⟩
    | 7, hq => cases hq; exact ⟨fun n z => ⟨fun k h => (by cases h), q_long, f2_long, m_long, f3_long⟩, f1_long⟩
    | 8, hq => cases hq; exact ⟨fun n z => ⟨fun k h => (by cases h), q_boolean, f2_boolean, m_boolean, f3_boolean⟩, f1_boolean⟩
    | k + 9, hq => simp [tC, tM] at hq
set_option maxHeartbeats 2000000 in
set_option maxRecDepth 100000 in
theorem start_of (N : Nat) (Rel : Nat → Cz → Mz → Prop) (hsim : SIM N Rel) (hinit : ∀ x0 : Nat, w_ErrataRow_init N x0 (nw x0 11 0 κE) (fun κ1 => Rel x0 κ1 μ0)) {p : Program} {e : Env} {s : State} {m : MethodId} {below : List Frame} {meth : Method} {c : Code} (l : Launch) {b L : Nat} {xs : Nat → Int32} (hL : L ≤ 3072) (C0 : lw_At p s m meth c b L xs) : W p l e room_1 s m #[Value.ref b] below meth c s.heap [] 0 0 (lw_Z below #[Value.ref b] s) (entryFrame m ([Value.ref b] : List Value).toArray 4) := by
  obtain ⟨hx, hb, hr, hml, hown, hts, hX, hbl, hlocks, hgv⟩ := id C0
  have hA : ∀ q : Nat, s.heap.size ≤ q → (fun q : Nat => s.heap.size ≤ q) q := fun _ h => h
  have hA' : ∀ q : Nat, (fun q : Nat => s.heap.size ≤ q) q → s.heap.size ≤ q := fun _ h => h
  have hbA : ¬ (fun q : Nat => s.heap.size ≤ q) b := Nat.not_le.mpr hbl
  have hN := NX_start hts
  obtain ⟨ad, hSC⟩ := SC_start (A := fun q : Nat => s.heap.size ≤ q) hts hgv (fun a h => Nat.not_le.mpr h)
  obtain ⟨D, θ, cs, hK⟩ := K_start hts
  generalize (fun q : Nat => s.heap.size ≤ q) = A at hA hA' hbA hSC
  have K0 : ∀ h0 : Nat, KL p s m b c D θ (h0, fun _ => 0, cs) A := fun h0 => ⟨hx, hb, hml, hown, hts, hK h0, hA⟩
  have hS : va_S A s.heap s.heap [] := va_S.rf
  have hP : va_P D vwCl [] s.heap := fun k q h => by simp at h
  have hD : va_D A [] := ⟨fun i j p q h => by simp at h, fun k q h => by simp at h⟩
  have hl := lv_entry ([.ref b]) (n := 4) (Nat.le_of_ble_eq_true rfl)
  rw [lg_entry_eq]
  have hl : lv_has _ 4 [(0, .ref b)] := hl
  suffices J : JJ p l e room_1 s m #[Value.ref b] below meth c D vwCl A 4 0 0 (lw_Z below #[Value.ref b] s) [] [(0, .ref b)] [] 0 from J s.heap [] _ hP hD hS hl
  clear hP hD hS hl
  refine j_new (K0 0) (ci := 11) (fs := fz 11) (C := RX11) (T := TX11) (N := 16) (fun w h => gL_gt (inX11 w h)) tyX11 tyX11_ok (List.mem_of_getElem? (i := 147) (by decide +kernel)) (gL_gt in_ErrataRow) (gL_gt ei_ErrataRow) rfl fzok_11 (Nat.le_of_ble_eq_true rfl) (Nat.le_of_ble_eq_true rfl) dL_0 (fun x0 => ?_)
  have hw : ([] : va_W) ++ [(x0, .inr (11, fz 11))] = wE θ (nw x0 11 0 κE) := wE_push θ (κ := κE) (k := 11) (n := 0) (e := .inr (11, fz 11)) (fun h => absurd h List.not_mem_nil) (by rw [cE_o θ (show kd (nw x0 11 0 κE) x0 = 11 from va_up_self _ _ _) (by decide), fl_new])
  rw [hw]
  refine j_dup (K0 0) dL_3 rfl ?_
  refine l_initE (K0 0) hN (c_ErrataRow_init_wp l D θ N x0 _ _ (hinit x0)) (by decide) (st := [.ref x0]) (Nat.le_of_ble_eq_true rfl) dL_4 ⟨Nat.le_of_ble_eq_true rfl, Nat.le_of_ble_eq_true rfl⟩ ?_
  intro κ1 hR
  refine j_astore_n (lv' := [(1, .ref x0), (0, .ref b)]) (K0 0) dL_7 rfl (by decide) rfl ?_
  refine j_new (K0 0) (ci := 12) (fs := fM0) (C := RX12) (T := TX12) (N := 41) (fun w h => gL_gt (inM w h)) tyX12 tyX12_ok (List.mem_of_getElem? (i := 1221) (by decide +kernel)) (List.mem_of_getElem? (i := 1222) (by decide +kernel)) (gL_gt mi_X12) rfl (by decide +kernel) (Nat.le_of_ble_eq_true rfl) (Nat.le_of_ble_eq_true rfl) dL_8 (fun h0 => ?_)
  refine j_dup (K0 0) dL_11 rfl ?_
  refine l_initM (K0 h0) (st := [.ref h0]) (Nat.le_of_ble_eq_true rfl) dL_12 ⟨Nat.le_of_ble_eq_true rfl, Nat.le_of_ble_eq_true rfl⟩ ?_
  intro ad1
  have K1 : KL p s m b c D θ (h0, ad1, cs) A := ⟨hx, hb, hml, hown, hts, hK h0, hA⟩
  refine j_astore_n (lv' := [(2, .ref h0), (1, .ref x0), (0, .ref b)]) K1 dL_15 rfl (by decide) rfl ?_
  refine j_iconst (v := 0) K1 dL_16 (by decide) ?_
  refine j_istore_n (lv' := [(3, .int 0), (2, .ref h0), (1, .ref x0), (0, .ref b)]) K1 dL_17 rfl (by decide) rfl ?_
  refine j_sub [3, 2, 1, 0] rfl ?_
  exact law_loop K1 hN hSC hX hbl hbA hr hlocks hA' N x0 Rel hsim hL 513 0 κ1 μ0 _ _ 0 rfl (Nat.zero_le _) (by omega) (Nat.le_of_ble_eq_true rfl) (Nat.le_of_ble_eq_true rfl) hR
