def fz (c : Nat) : List Value := (List.range (nf c)).map (fun j => if rq c j then .null else .int 0)
theorem fl_new (c q n : Nat) (κ : Cz) : fl c (nw q c n κ) q = fz c := by
  simp only [fl, fz, nw, fi, fr, va_up_self]
  rfl
theorem cE_onw (θ : Tc) (κ : Cz) {q k n b : Nat} (h : b ≠ q) : cE θ (nw q k n κ) b = cE θ κ b := cE_same θ (va_up_ne _ _ h) (va_up_ne _ _ h) (va_up_ne _ _ h) (va_up_ne _ _ h) (va_up_ne _ _ h) (va_up_ne _ _ h) (va_up_ne _ _ h)
theorem wE_push (θ : Tc) {κ : Cz} {q k n : Nat} {e : va_E} (hq : q ∉ Lk κ) (he : cE θ (nw q k n κ) q = e) : wE θ κ ++ [(q, e)] = wE θ (nw q k n κ) := by
  have h1 := va_pl_push (L := Lk κ) (f := cE θ κ) (a := q) (e := e) hq
  refine h1.trans (va_pl_congr (fun b => ?_))
  by_cases hb : b = q
  · subst hb
    rw [va_up_self, he]
  · rw [va_up_ne _ _ hb, cE_onw θ κ hb]
theorem wE_new {A : Nat → Prop} {θ : Tc} {κ : Cz} {q : Nat} {e : va_E} (hD : va_D A (wE θ κ ++ [(q, e)])) : q ∉ Lk κ := va_pl_fresh2 (X := []) hD
def wck (b : Bool) (x : Prop) : Prop := b = true ∧ x
def wlt {α : Type} (v : α) (f : α → Prop) : Prop := f v
def wbo {α : Type} (x : Option α) (f : α → Prop) : Prop := ∃ a, x = some a ∧ f a
def wbd {α β : Type} (x : Option (α × β)) (f : α → β → Prop) : Prop := ∃ a b, x = some (a, b) ∧ f a b
def wif (c : Prop) (x y : Prop) : Prop := (c → x) ∧ (¬ c → y)
def woc {α : Type} (x : Option α) (e : Prop) (f : α → Prop) : Prop := (x = none → e) ∧ ∀ a, x = some a → f a
def wnw (κ : Cz) (f : Nat → Prop) : Prop := ∀ q, q ∉ Lk κ → f q
theorem wlt_e {α : Type} {v : α} {f : α → Prop} (h : wlt v f) : ∃ y, y = v ∧ f y := ⟨v, rfl, h⟩
theorem woc_e {α : Type} {x : Option α} {e : Prop} {f : α → Prop} (h : woc x e f) : (x = none ∧ e) ∨ ∃ a, x = some a ∧ f a := by
  cases hx : x with
  | none => exact Or.inl ⟨rfl, h.1 hx⟩
  | some a => exact Or.inr ⟨a, rfl, h.2 a hx⟩
theorem isK_nw {κ κ1 : Cz} {q k n b c : Nat} (e : κ1 = nw q k n κ) (f : q ∉ Lk κ) (h : isK κ b c = true) : isK κ1 b c = true := by
  subst e
  have hb : b ≠ q := fun e => f (e ▸ isK_m h)
  exact decide_eq_true ⟨List.mem_append_left _ (isK_m h), (va_up_ne _ _ hb).trans (isK_k h)⟩
theorem isK_me {κ κ1 : Cz} {q k n : Nat} (e : κ1 = nw q k n κ) : isK κ1 q k = true := by
  subst e
  exact decide_eq_true ⟨List.mem_append_right _ (List.mem_singleton.mpr rfl), va_up_self _ _ _⟩
abbrev QWi (below : List Frame) (args : Array Value) (s : State) (D : va_G) (θ : Tc) (A : Nat → Prop) (mc ms : Nat) (post : Int32 → Cz → Prop) : State → Prop := MQ below (va_Qi post (Bm D vwCl (tC θ) A (wE θ)) A) args s mc ms A
def CWi (l : Launch) (D : va_G) (θ : Tc) (y : MethodName) (bytes : ByteArray) (maxL : Nat) (ret : Option FieldType) (k mc ms : Nat) (av : List Value) (κ : Cz) (post : Int32 → Cz → Prop) : Prop := ∀ sz, Met l y (.code y bytes maxL ret :: lw_gt) (rmA k mc ms) (PE D θ av κ sz) (va_Qi post (Bm D vwCl (tC θ) (va_A (wE θ κ) sz) (wE θ)) (va_A (wE θ κ) sz)) mc ms (va_A (wE θ κ) sz)
abbrev QWl (below : List Frame) (args : Array Value) (s : State) (D : va_G) (θ : Tc) (A : Nat → Prop) (mc ms : Nat) (post : Int64 → Cz → Prop) : State → Prop := MQ below (va_Ql post (Bm D vwCl (tC θ) A (wE θ)) A) args s mc ms A
def CWl (l : Launch) (D : va_G) (θ : Tc) (y : MethodName) (bytes : ByteArray) (maxL : Nat) (ret : Option FieldType) (k mc ms : Nat) (av : List Value) (κ : Cz) (post : Int64 → Cz → Prop) : Prop := ∀ sz, Met l y (.code y bytes maxL ret :: lw_gt) (rmA k mc ms) (PE D θ av κ sz) (va_Ql post (Bm D vwCl (tC θ) (va_A (wE θ κ) sz) (wE θ)) (va_A (wE θ κ) sz)) mc ms (va_A (wE θ κ) sz)
abbrev QWq (below : List Frame) (args : Array Value) (s : State) (D : va_G) (θ : Tc) (A : Nat → Prop) (mc ms : Nat) (post : Option Nat → Cz → Prop) : State → Prop := MQ below (va_Qq post (Bm D vwCl (tC θ) A (wE θ)) A) args s mc ms A
def CWq (l : Launch) (D : va_G) (θ : Tc) (y : MethodName) (bytes : ByteArray) (maxL : Nat) (ret : Option FieldType) (k mc ms : Nat) (av : List Value) (κ : Cz) (post : Option Nat → Cz → Prop) : Prop := ∀ sz, Met l y (.code y bytes maxL ret :: lw_gt) (rmA k mc ms) (PE D θ av κ sz) (va_Qq post (Bm D vwCl (tC θ) (va_A (wE θ κ) sz) (wE θ)) (va_A (wE θ κ) sz)) mc ms (va_A (wE θ κ) sz)
abbrev QWv (below : List Frame) (args : Array Value) (s : State) (D : va_G) (θ : Tc) (A : Nat → Prop) (mc ms : Nat) (post : Cz → Prop) : State → Prop := MQ below (va_Qv post (Bm D vwCl (tC θ) A (wE θ)) A) args s mc ms A
def CWv (l : Launch) (D : va_G) (θ : Tc) (y : MethodName) (bytes : ByteArray) (maxL : Nat) (ret : Option FieldType) (k mc ms : Nat) (av : List Value) (κ : Cz) (post : Cz → Prop) : Prop := ∀ sz, Met l y (.code y bytes maxL ret :: lw_gt) (rmA k mc ms) (PE D θ av κ sz) (va_Qv post (Bm D vwCl (tC θ) (va_A (wE θ κ) sz) (wE θ)) (va_A (wE θ κ) sz)) mc ms (va_A (wE θ κ) sz)
section WRows
variable {p : Program} {l : Launch} {e : Env} {R : Room} {s : State} {m : MethodId} {args : Array Value} {below : List Frame} {meth : Method} {c : Code} {cc : ByteArray} {nL ce sl : Nat} {own : String} {y0 : MethodName} {r0 : Option FieldType} {D : va_G} {θ : Tc} {A : Nat → Prop} {Q : State → Prop} {κ : Cz} {lv : List (Nat × Value)} {st : List Value} {pc : Nat}
theorem e_new (K : KE p s m args c cc nL own y0 r0 D θ A) {C : String} {T : u_T} {N ci index : Nat} (hin : ∀ w ∈ u_ws C T N, w ∈ lw_gt) (ty : Nat → FieldType) (hty : ∀ k, k < N → parseFieldDescriptor (T k).2.2.1 = some (ty k)) (hcl : Cond.classLink own index C ∈ lw_gt) (hinst : Cond.instantiable C N ∈ lw_gt) (hini : Cond.initialized C ∈ lw_gt) (hc : vwCl[ci]? = some (C, T, N)) (hci : ci < 12) (hfs : ∀ j, j < N → defaultValue (ty j) = vp_V (fz ci) j) (hce : ce + 1 ≤ R.cells) (hsl : sl + N ≤ R.slots) (hdg : decode cc pc = .ok (.new index, 3)) (kk : ∀ q, q ∉ Lk κ → JE p l e R s m args below meth c D θ A nL (ce + 1) (sl + N) Q (nw q ci 0 κ) lv (.ref q :: st) (pc + 3)) : JE p l e R s m args below meth c D θ A nL ce sl Q κ lv st pc := fun H locs ls hP hD hS h => by
  refine va_new K.1 K.2.1 K.2.2.2.2.1 (fun w h => List.mem_cons_of_mem _ (hin w h)) ty hty K.2.2.2.1 (K.2.2.2.2.1 _ (List.mem_cons_of_mem _ hcl)) (K.2.2.2.2.1 _ (List.mem_cons_of_mem _ hinst)) (K.2.2.2.2.1 _ (List.mem_cons_of_mem _ hini)) K.2.2.2.2.2.1 hP hD hS K.2.2.2.2.2.2 hc (fs := fz ci) hfs hce hsl hdg (fun q H1 p1 d1 s1 => ?_)
  have hq := wE_new d1
  have hw := wE_push θ (k := ci) (n := 0) (e := .inr (ci, fz ci)) hq (by rw [cE_o θ (show kd (nw q ci 0 κ) q = ci from va_up_self _ _ _) hci, fl_new])
  exact kk q hq H1 locs ls (hw ▸ p1) (hw ▸ d1) s1 h
theorem e_newai (K : KE p s m args c cc nL own y0 r0 D θ A) (harr : Cond.arrayClass .int ∈ lw_gt) (B : Nat) {n : Int32} (hn : ¬ n < 0) (hB : n.toNatClampNeg ≤ B) (hBB : B ≤ 100000) (hce : ce + 1 ≤ R.cells) (hsl : sl + B ≤ R.slots) (hdg : decode cc pc = .ok (.newarray .int, 2)) (kk : ∀ q, q ∉ Lk κ → JE p l e R s m args below meth c D θ A nL (ce + 1) (sl + B) Q (nw q 20 n.toNatClampNeg κ) lv (.ref q :: st) (pc + 2)) : JE p l e R s m args below meth c D θ A nL ce sl Q κ lv (.int n :: st) pc := fun H locs ls hP hD hS h => by
  refine va_newa (atype := .int) (ty := .int) (a0 := (n.toNatClampNeg, .inl (fun _ => 0))) K.1 K.2.1 (K.2.2.2.2.1 _ (List.mem_cons_of_mem _ harr)) rfl K.2.2.2.2.2.1 hP hD hS K.2.2.2.2.2.2 (fun cA => rfl) hn rfl (by show n.toNatClampNeg * 4 ≤ _; omega) hce (by omega) hdg (fun q cA H1 k1 p1 d1 s1 => ?_)
  have hq := wE_new d1
  have e1 : cA = θ 0 := by
    have a1 : s.vm.findClass ("[" ++ FieldType.toString .int) = some cA := (k1.2 5 _ rfl).2
    have a2 : s.vm.findClass ("[" ++ FieldType.toString .int) = some (θ 0) := (K.2.2.2.2.2.1.2 0 _ rfl).2
    exact Option.some.inj (a1.symm.trans a2)
  subst e1
  have hw := wE_push θ (k := 20) (n := n.toNatClampNeg) (e := .inl (θ 0, n.toNatClampNeg, .inl (fun _ => 0))) hq (by rw [cE_i θ (show kd (nw q 20 n.toNatClampNeg κ) q = 20 from va_up_self _ _ _)]; simp only [nw, ln, ai, al, va_up_self])
  exact W.widen (Nat.le_refl _) (by omega) (kk q hq H1 locs ls (hw ▸ p1) (hw ▸ d1) s1 h)
theorem e_newal (K : KE p s m args c cc nL own y0 r0 D θ A) (harr : Cond.arrayClass .long ∈ lw_gt) (B : Nat) {n : Int32} (hn : ¬ n < 0) (hB : n.toNatClampNeg ≤ B) (hBB : B ≤ 100000) (hce : ce + 1 ≤ R.cells) (hsl : sl + B ≤ R.slots) (hdg : decode cc pc = .ok (.newarray .long, 2)) (kk : ∀ q, q ∉ Lk κ → JE p l e R s m args below meth c D θ A nL (ce + 1) (sl + B) Q (nw q 21 n.toNatClampNeg κ) lv (.ref q :: st) (pc + 2)) : JE p l e R s m args below meth c D θ A nL ce sl Q κ lv (.int n :: st) pc := fun H locs ls hP hD hS h => by
  refine va_newa (atype := .long) (ty := .long) (a0 := (n.toNatClampNeg, .inr (.inl (fun _ => 0)))) K.1 K.2.1 (K.2.2.2.2.1 _ (List.mem_cons_of_mem _ harr)) rfl K.2.2.2.2.2.1 hP hD hS K.2.2.2.2.2.2 (fun cA => rfl) hn rfl (by show n.toNatClampNeg * 8 ≤ _; omega) hce (by omega) hdg (fun q cA H1 k1 p1 d1 s1 => ?_)
  have hq := wE_new d1
  have e1 : cA = θ 1 := by
    have a1 : s.vm.findClass ("[" ++ FieldType.toString .long) = some cA := (k1.2 5 _ rfl).2
    have a2 : s.vm.findClass ("[" ++ FieldType.toString .long) = some (θ 1) := (K.2.2.2.2.2.1.2 1 _ rfl).2
    exact Option.some.inj (a1.symm.trans a2)
  subst e1
  have hw := wE_push θ (k := 21) (n := n.toNatClampNeg) (e := .inl (θ 1, n.toNatClampNeg, .inr (.inl (fun _ => 0)))) hq (by rw [cE_l θ (show kd (nw q 21 n.toNatClampNeg κ) q = 21 from va_up_self _ _ _)]; simp only [nw, ln, ai, al, va_up_self])
  exact W.widen (Nat.le_refl _) (by omega) (kk q hq H1 locs ls (hw ▸ p1) (hw ▸ d1) s1 h)
theorem e_newq_Rule (K : KE p s m args c cc nL own y0 r0 D θ A) (hN : NX s) {index : Nat} (hcl : Cond.classLink own index "ErrataRow$Rule" ∈ lw_gt) (B : Nat) {n : Int32} (hn : ¬ n < 0) (hB : n.toNatClampNeg ≤ B) (hBB : B ≤ 100000) (hce : ce + 1 ≤ R.cells) (hsl : sl + B ≤ R.slots) (hdg : decode cc pc = .ok (.anewarray index, 3)) (kk : ∀ q, q ∉ Lk κ → JE p l e R s m args below meth c D θ A nL (ce + 1) (sl + B) Q (nw q 22 n.toNatClampNeg κ) lv (.ref q :: st) (pc + 3)) : JE p l e R s m args below meth c D θ A nL ce sl Q κ lv (.int n :: st) pc := fun H locs ls hP hD hS h => by
  refine va_newq K.1 K.2.1 K.2.2.2.1 (K.2.2.2.2.1 _ (List.mem_cons_of_mem _ hcl)) (NX_AO_Rule hN) K.2.2.2.2.2.1 hP hD hS K.2.2.2.2.2.2 hn rfl (by omega) hce (by omega) hdg (fun q cA H1 k1 p1 d1 s1 => ?_)
  have hq := wE_new d1
  have e1 : cA = θ 2 := by
    obtain ⟨-, -, -, -, -, -, a1⟩ := k1.2 5 _ rfl
    obtain ⟨-, -, -, -, -, -, a2⟩ := K.2.2.2.2.2.1.2 2 _ rfl
    exact Option.some.inj (a1.symm.trans a2)
  subst e1
  have hw := wE_push θ (k := 22) (n := n.toNatClampNeg) (e := .inl (θ 2, n.toNatClampNeg, .inr (.inr (.inr (.inr (fun _ => none)))))) hq (by rw [cE_q θ (k := 2) (show kd (nw q 22 n.toNatClampNeg κ) q = 22 from va_up_self _ _ _) (by decide)]; simp only [nw, ln, aq, va_up_self])
  exact W.widen (Nat.le_refl _) (by omega) (kk q hq H1 locs ls (hw ▸ p1) (hw ▸ d1) s1 h)
theorem e_newq_State (K : KE p s m args c cc nL own y0 r0 D θ A) (hN : NX s) {index : Nat} (hcl : Cond.classLink own index "ErrataRow$State" ∈ lw_gt) (B : Nat) {n : Int32} (hn : ¬ n < 0) (hB : n.toNatClampNeg ≤ B) (hBB : B ≤ 100000) (hce : ce + 1 ≤ R.cells) (hsl : sl + B ≤ R.slots) (hdg : decode cc pc = .ok (.anewarray index, 3)) (kk : ∀ q, q ∉ Lk κ → JE p l e R s m args below meth c D θ A nL (ce + 1) (sl + B) Q (nw q 23 n.toNatClampNeg κ) lv (.ref q :: st) (pc + 3)) : JE p l e R s m args below meth c D θ A nL ce sl Q κ lv (.int n :: st) pc := fun H locs ls hP hD hS h => by
  refine va_newq K.1 K.2.1 K.2.2.2.1 (K.2.2.2.2.1 _ (List.mem_cons_of_mem _ hcl)) (NX_AO_State hN) K.2.2.2.2.2.1 hP hD hS K.2.2.2.2.2.2 hn rfl (by omega) hce (by omega) hdg (fun q cA H1 k1 p1 d1 s1 => ?_)
  have hq := wE_new d1
  have e1 : cA = θ 3 := by
    obtain ⟨-, -, -, -, -, -, a1⟩ := k1.2 5 _ rfl
    obtain ⟨-, -, -, -, -, -, a2⟩ := K.2.2.2.2.2.1.2 3 _ rfl
    exact Option.some.inj (a1.symm.trans a2)
  subst e1
  have hw := wE_push θ (k := 23) (n := n.toNatClampNeg) (e := .inl (θ 3, n.toNatClampNeg, .inr (.inr (.inr (.inr (fun _ => none)))))) hq (by rw [cE_q θ (k := 3) (show kd (nw q 23 n.toNatClampNeg κ) q = 23 from va_up_self _ _ _) (by decide)]; simp only [nw, ln, aq, va_up_self])
  exact W.widen (Nat.le_refl _) (by omega) (kk q hq H1 locs ls (hw ▸ p1) (hw ▸ d1) s1 h)
theorem e_newq_World (K : KE p s m args c cc nL own y0 r0 D θ A) (hN : NX s) {index : Nat} (hcl : Cond.classLink own index "ErrataRow$World" ∈ lw_gt) (B : Nat) {n : Int32} (hn : ¬ n < 0) (hB : n.toNatClampNeg ≤ B) (hBB : B ≤ 100000) (hce : ce + 1 ≤ R.cells) (hsl : sl + B ≤ R.slots) (hdg : decode cc pc = .ok (.anewarray index, 3)) (kk : ∀ q, q ∉ Lk κ → JE p l e R s m args below meth c D θ A nL (ce + 1) (sl + B) Q (nw q 24 n.toNatClampNeg κ) lv (.ref q :: st) (pc + 3)) : JE p l e R s m args below meth c D θ A nL ce sl Q κ lv (.int n :: st) pc := fun H locs ls hP hD hS h => by
  refine va_newq K.1 K.2.1 K.2.2.2.1 (K.2.2.2.2.1 _ (List.mem_cons_of_mem _ hcl)) (NX_AO_World hN) K.2.2.2.2.2.1 hP hD hS K.2.2.2.2.2.2 hn rfl (by omega) hce (by omega) hdg (fun q cA H1 k1 p1 d1 s1 => ?_)
  have hq := wE_new d1
  have e1 : cA = θ 4 := by
    obtain ⟨-, -, -, -, -, -, a1⟩ := k1.2 5 _ rfl
    obtain ⟨-, -, -, -, -, -, a2⟩ := K.2.2.2.2.2.1.2 4 _ rfl
    exact Option.some.inj (a1.symm.trans a2)
  subst e1
  have hw := wE_push θ (k := 24) (n := n.toNatClampNeg) (e := .inl (θ 4, n.toNatClampNeg, .inr (.inr (.inr (.inr (fun _ => none)))))) hq (by rw [cE_q θ (k := 4) (show kd (nw q 24 n.toNatClampNeg κ) q = 24 from va_up_self _ _ _) (by decide)]; simp only [nw, ln, aq, va_up_self])
  exact W.widen (Nat.le_refl _) (by omega) (kk q hq H1 locs ls (hw ▸ p1) (hw ▸ d1) s1 h)
theorem e_putFr (K : KE p s m args c cc nL own y0 r0 D θ A) {C : String} {T : u_T} {N ci index a : Nat} (hin : ∀ w ∈ u_ws C T N, w ∈ lw_gt) (ty0 : Nat → FieldType) (hty : ∀ k, k < N → parseFieldDescriptor (T k).2.2.1 = some (ty0 k)) (hnm : ∀ a, a < N → ∀ b, b < N → a ≠ b → (T a).2.1 ≠ (T b).2.1) (hc : vwCl[ci]? = some (C, T, N)) (hci : ci < 12) (ha : isK κ a ci = true) (k : Nat) (hk : k < N) (hkn : k < nf ci) (hrq : rq ci k = true) (hlink : Cond.fieldLink own index (T k).1 (T k).2.1 (T k).2.2.1 ∈ lw_gt) (hfin : (T k).2.2.2 = true) (hin2 : meth.name = "<init>") (hdecl : (T k).1 = own) {ty : FieldType} {v : Nat} (hd : parseFieldDescriptor (T k).2.2.1 = some ty) (hn : narrow ty (.ref v) = .ref v) (hfit : fits ty (.ref v) = true) (hdg : decode cc pc = .ok (.putfield index, 3)) {κ1 : Cz} (hκ : κ1 = sfr a k (some v) κ) (kk : JE p l e R s m args below meth c D θ A nL ce sl Q κ1 lv st (pc + 3)) : JE p l e R s m args below meth c D θ A nL ce sl Q κ lv (.ref v :: .ref a :: st) pc := fun H locs ls hP hD hS h => by
  subst hκ
  obtain ⟨q0, h0⟩ := wE_get θ (isK_m ha)
  have h1 := h0
  rw [cE_o θ (isK_k ha) hci] at h1
  have hw := wE_set θ (κ1 := sfr a k (some v) κ) hD (isK_m ha) h0 rfl (by rw [cE_o θ (show kd (sfr a k (some v) κ) a = ci from isK_k ha) hci, ← fl_setr _ _ _ hrq]) (fun b hb => cE_ofr θ κ _ hb)
  exact va_putF K.1 K.2.1 K.2.2.2.2.1 (fun w h => List.mem_cons_of_mem _ (hin w h)) ty0 hty hnm K.2.2.2.1 K.2.2.2.2.2.1 hP hD hS q0 h1 hc k hk (K.2.2.2.2.1 _ (List.mem_cons_of_mem _ hlink)) (fun _ h9 => h9) hfin hin2 hdecl hd hn hfit (by rw [fl_len]; exact hkn) hdg (fun H1 locs1 p1 d1 s1 => kk H1 locs1 ls (hw ▸ p1) (hw ▸ d1) s1 h)
theorem e_objInit (K : KE p s m args c cc nL own y0 r0 D θ A) {index a : Nat} (hl : Cond.methodLink own index objectInit ∈ lw_gt) (hi : Cond.instanceMethod objectInit ∈ lw_gt) (hco : Cond.code objectInit ⟨#[0xb1]⟩ 1 none ∈ lw_gt) (hfr : 1 ≤ R.frames) (hlo : (st.map fun v => v.category).sum + 12 ≤ R.locals) (hdg : decode cc pc = .ok (.invokespecial index, 3)) (kk : JE p l e R s m args below meth c D θ A nL ce sl Q κ lv st (pc + 3)) : JE p l e R s m args below meth c D θ A nL ce sl Q κ lv (.ref a :: st) pc := fun H locs ls hP hD hS h => W.objInit K.1 K.2.1 K.2.2.2.1 (K.2.2.2.2.1 _ (List.mem_cons_of_mem _ hl)) (K.2.2.2.2.1 _ (List.mem_cons_of_mem _ hi)) (K.2.2.2.2.1 _ (List.mem_cons_of_mem _ hco)) rfl (h.1.trans K.2.2.1.symm) rfl hdg hfr (by show 2 * 0 + _ + 12 ≤ _; omega) (kk H locs ls hP hD hS h)
theorem wret_i (K : KE p s m args c cc nL own y0 r0 D θ A) {v : Int32} {post : Int32 → Cz → Prop} (h : post v κ) (hr : meth.sig.returnType = (some .int)) (hk : meth.locks = false) (hdg : decode cc pc = .ok (.ireturn, 1)) : JE p l e R s m args below meth c D θ A nL ce sl (QWi below args s D θ A ce sl post) κ lv [.int v] pc := j_reti K (wf := wE θ) κ h hr hk hdg
theorem wret_z (K : KE p s m args c cc nL own y0 r0 D θ A) {v : Int32} {post : Int32 → Cz → Prop} (h : post v κ) (hz : narrow .boolean (.int v) = .int v) (hr : meth.sig.returnType = (some .boolean)) (hk : meth.locks = false) (hdg : decode cc pc = .ok (.ireturn, 1)) : JE p l e R s m args below meth c D θ A nL ce sl (QWi below args s D θ A ce sl post) κ lv [.int v] pc := j_retz K (wf := wE θ) κ h hz hr hk hdg
theorem wret_l (K : KE p s m args c cc nL own y0 r0 D θ A) {v : Int64} {post : Int64 → Cz → Prop} (h : post v κ) (hr : meth.sig.returnType = (some .long)) (hk : meth.locks = false) (hdg : decode cc pc = .ok (.lreturn, 1)) : JE p l e R s m args below meth c D θ A nL ce sl (QWl below args s D θ A ce sl post) κ lv [.long v] pc := j_retl K (wf := wE θ) κ h hr hk hdg
theorem wret_v (K : KE p s m args c cc nL own y0 r0 D θ A) {post : Cz → Prop} (h : post κ) (hr : meth.sig.returnType = none) (hk : meth.locks = false) (hdg : decode cc pc = .ok (.return_, 1)) : JE p l e R s m args below meth c D θ A nL ce sl (QWv below args s D θ A ce sl post) κ lv [] pc := j_retv K (wf := wE θ) κ h hr hk hdg
theorem wret_q (K : KE p s m args c cc nL own y0 r0 D θ A) {v : Option Nat} {w : Value} (hw : va_rf v = w) {post : Option Nat → Cz → Prop} (h : post v κ) {rt : FieldType} (hr : meth.sig.returnType = some rt) (hrt : (∃ n, rt = .object n) ∨ ∃ t, rt = .array t) (hk : meth.locks = false) (hdg : decode cc pc = .ok (.areturn, 1)) : JE p l e R s m args below meth c D θ A nL ce sl (QWq below args s D θ A ce sl post) κ lv [w] pc := fun H locs ls hP hD hS h9 => by
  subst hw
  exact W.aret K.1 K.2.1 hr hrt (va_rf_or v) (fun t ht hW => ⟨⟨v, κ, rfl, h, by rw [ht]; exact hP, va_K.moved hW.alike K.2.2.2.2.2.1, hD⟩, hS.F ht⟩) hS.2.2 hdg hk
theorem wcallV_i (K : KE p s m args c cc nL own y0 r0 D θ A) (hN : NX s) {y : MethodName} {bytes : ByteArray} {maxL j index n mc ms : Nat} {ret : Option FieldType} {As : List Value} {st0 : List Value} {b ci : Nat} {post : Int32 → Cz → Prop} (hM : CWi l D θ y bytes maxL ret j mc ms (.ref b :: As) κ post) (hG : GoodIn (.code y0 cc nL r0 :: lw_gt) (wsV own index y.cls y (.code y bytes maxL ret :: lw_gt))) (hd : y.cls ≠ "java/lang/invoke/MethodHandle" ∧ y.cls ≠ "java/lang/invoke/VarHandle" ∧ (parseMethodDescriptor y.desc).map (fun d => d.parameters.length) = some n) (hR : (rmA j mc ms).frames + 1 ≤ R.frames ∧ 8 + (maxL + 11) + (rmA j mc ms).locals ≤ R.locals) (hn : As.length = n) (hb : isK κ b ci = true) (hci : ci < 12) {T : u_T} {N : Nat} (hc : vwCl[ci]? = some (y.cls, T, N)) (hst : (st.map fun v => v.category).sum ≤ 8) (hs0 : st0 = As.reverse ++ .ref b :: st) (hdg : decode cc pc = .ok (.invokevirtual index, 3)) (hf : ce + mc ≤ R.cells ∧ sl + ms ≤ R.slots) (kk : ∀ (r : Int32) (κ1 : Cz), post r κ1 → JE p l e R s m args below meth c D θ A nL (ce + mc) (sl + ms) Q κ1 lv (.int r :: st) (pc + 3)) : JE p l e R s m args below meth c D θ A nL ce sl Q κ lv st0 pc := by
  intro H locs ls hP hD hS h
  subst hs0
  obtain ⟨hx, hb9, hml, hown, hts, hK, hA⟩ := K
  have hsp := sp_all (wE θ κ)
  have hFc := hsp.F hD hS hA
  obtain ⟨q0, he⟩ := wE_get θ (isK_m hb)
  rw [cE_o θ (isK_k hb) hci] at he
  refine va_calli (va_runV (As := As) (rest := st) ⟨hx, hb9, hml, hown, hts⟩ (hM H.size) (cwV n hts hG rfl rfl rfl ⟨rfl, hd⟩ hR) ⟨PE_blind, va_recv hK hP hc he, fun U hU hW => ⟨rfl, by rw [hU], by rw [hU]; exact hP, va_K.moved hW.alike hK, hD.weaken (fun _ _ _ _ => trivial), NX.warm hW hN⟩⟩ rfl hn h.1 rfl (lv_room hst) hdg hf) hS (fun q _ h => hFc q h) hFc (fun r u t H1 locs1 ht hvm hw hB hz1 hk1 hS1 => ?_)
  obtain ⟨hP1, hK1, hD1⟩ := hB
  rw [ht] at hP1
  obtain ⟨hP2, hD2⟩ := hsp.J hP hD hk1 hFc hP1 hD1
  exact kk r u hw H1 locs1 ls hP2 hD2 hS1 h
theorem wcallS_i (K : KE p s m args c cc nL own y0 r0 D θ A) (hN : NX s) {y : MethodName} {bytes : ByteArray} {maxL j index n mc ms : Nat} {ret : Option FieldType} {As : List Value} {st0 : List Value} {post : Int32 → Cz → Prop} (hM : CWi l D θ y bytes maxL ret j mc ms As κ post) (hG : GoodIn (.code y0 cc nL r0 :: lw_gt) (va_wsS own index y (.code y bytes maxL ret :: lw_gt))) (hd : y.cls ≠ "java/lang/invoke/MethodHandle" ∧ y.cls ≠ "java/lang/invoke/VarHandle" ∧ (parseMethodDescriptor y.desc).map (fun d => d.parameters.length) = some n) (hR : (rmA j mc ms).frames + 1 ≤ R.frames ∧ 8 + (maxL + 11) + (rmA j mc ms).locals ≤ R.locals) (hn : As.length = n) (hst : (st.map fun v => v.category).sum ≤ 8) (hs0 : st0 = As.reverse ++ st) (hdg : decode cc pc = .ok (.invokestatic index, 3)) (hf : ce + mc ≤ R.cells ∧ sl + ms ≤ R.slots) (kk : ∀ (r : Int32) (κ1 : Cz), post r κ1 → JE p l e R s m args below meth c D θ A nL (ce + mc) (sl + ms) Q κ1 lv (.int r :: st) (pc + 3)) : JE p l e R s m args below meth c D θ A nL ce sl Q κ lv st0 pc := by
  intro H locs ls hP hD hS h
  subst hs0
  obtain ⟨hx, hb9, hml, hown, hts, hK, hA⟩ := K
  have hsp := sp_all (wE θ κ)
  have hFc := hsp.F hD hS hA
  refine va_calli (va_runS (As := As) (rest := st) ⟨hx, hb9, hml, hown, hts⟩ (hM H.size) (va_cwS n hts hG rfl rfl rfl hd hR) ⟨PE_blind, fun U hU hW => ⟨rfl, by rw [hU], by rw [hU]; exact hP, va_K.moved hW.alike hK, hD.weaken (fun _ _ _ _ => trivial), NX.warm hW hN⟩⟩ rfl hn h.1 rfl (lv_room hst) hdg hf) hS (fun q _ h => hFc q h) hFc (fun r u t H1 locs1 ht hvm hw hB hz1 hk1 hS1 => ?_)
  obtain ⟨hP1, hK1, hD1⟩ := hB
  rw [ht] at hP1
  obtain ⟨hP2, hD2⟩ := hsp.J hP hD hk1 hFc hP1 hD1
  exact kk r u hw H1 locs1 ls hP2 hD2 hS1 h
theorem wcallV_q (K : KE p s m args c cc nL own y0 r0 D θ A) (hN : NX s) {y : MethodName} {bytes : ByteArray} {maxL j index n mc ms : Nat} {ret : Option FieldType} {As : List Value} {st0 : List Value} {b ci : Nat} {post : Option Nat → Cz → Prop} (hM : CWq l D θ y bytes maxL ret j mc ms (.ref b :: As) κ post) (hG : GoodIn (.code y0 cc nL r0 :: lw_gt) (wsV own index y.cls y (.code y bytes maxL ret :: lw_gt))) (hd : y.cls ≠ "java/lang/invoke/MethodHandle" ∧ y.cls ≠ "java/lang/invoke/VarHandle" ∧ (parseMethodDescriptor y.desc).map (fun d => d.parameters.length) = some n) (hR : (rmA j mc ms).frames + 1 ≤ R.frames ∧ 8 + (maxL + 11) + (rmA j mc ms).locals ≤ R.locals) (hn : As.length = n) (hb : isK κ b ci = true) (hci : ci < 12) {T : u_T} {N : Nat} (hc : vwCl[ci]? = some (y.cls, T, N)) (hst : (st.map fun v => v.category).sum ≤ 8) (hs0 : st0 = As.reverse ++ .ref b :: st) (hdg : decode cc pc = .ok (.invokevirtual index, 3)) (hf : ce + mc ≤ R.cells ∧ sl + ms ≤ R.slots) (kk : ∀ (r : Option Nat) (κ1 : Cz), post r κ1 → JE p l e R s m args below meth c D θ A nL (ce + mc) (sl + ms) Q κ1 lv (va_rf r :: st) (pc + 3)) : JE p l e R s m args below meth c D θ A nL ce sl Q κ lv st0 pc := by
  intro H locs ls hP hD hS h
  subst hs0
  obtain ⟨hx, hb9, hml, hown, hts, hK, hA⟩ := K
  have hsp := sp_all (wE θ κ)
  have hFc := hsp.F hD hS hA
  obtain ⟨q0, he⟩ := wE_get θ (isK_m hb)
  rw [cE_o θ (isK_k hb) hci] at he
  refine va_callq (va_runV (As := As) (rest := st) ⟨hx, hb9, hml, hown, hts⟩ (hM H.size) (cwV n hts hG rfl rfl rfl ⟨rfl, hd⟩ hR) ⟨PE_blind, va_recv hK hP hc he, fun U hU hW => ⟨rfl, by rw [hU], by rw [hU]; exact hP, va_K.moved hW.alike hK, hD.weaken (fun _ _ _ _ => trivial), NX.warm hW hN⟩⟩ rfl hn h.1 rfl (lv_room hst) hdg hf) hS (fun q _ h => hFc q h) hFc (fun r u t H1 locs1 ht hvm hw hB hz1 hk1 hS1 => ?_)
  obtain ⟨hP1, hK1, hD1⟩ := hB
  rw [ht] at hP1
  obtain ⟨hP2, hD2⟩ := hsp.J hP hD hk1 hFc hP1 hD1
  exact kk r u hw H1 locs1 ls hP2 hD2 hS1 h
theorem wcallS_q (K : KE p s m args c cc nL own y0 r0 D θ A) (hN : NX s) {y : MethodName} {bytes : ByteArray} {maxL j index n mc ms : Nat} {ret : Option FieldType} {As : List Value} {st0 : List Value} {post : Option Nat → Cz → Prop} (hM : CWq l D θ y bytes maxL ret j mc ms As κ post) (hG : GoodIn (.code y0 cc nL r0 :: lw_gt) (va_wsS own index y (.code y bytes maxL ret :: lw_gt))) (hd : y.cls ≠ "java/lang/invoke/MethodHandle" ∧ y.cls ≠ "java/lang/invoke/VarHandle" ∧ (parseMethodDescriptor y.desc).map (fun d => d.parameters.length) = some n) (hR : (rmA j mc ms).frames + 1 ≤ R.frames ∧ 8 + (maxL + 11) + (rmA j mc ms).locals ≤ R.locals) (hn : As.length = n) (hst : (st.map fun v => v.category).sum ≤ 8) (hs0 : st0 = As.reverse ++ st) (hdg : decode cc pc = .ok (.invokestatic index, 3)) (hf : ce + mc ≤ R.cells ∧ sl + ms ≤ R.slots) (kk : ∀ (r : Option Nat) (κ1 : Cz), post r κ1 → JE p l e R s m args below meth c D θ A nL (ce + mc) (sl + ms) Q κ1 lv (va_rf r :: st) (pc + 3)) : JE p l e R s m args below meth c D θ A nL ce sl Q κ lv st0 pc := by
  intro H locs ls hP hD hS h
  subst hs0
  obtain ⟨hx, hb9, hml, hown, hts, hK, hA⟩ := K
  have hsp := sp_all (wE θ κ)
  have hFc := hsp.F hD hS hA
  refine va_callq (va_runS (As := As) (rest := st) ⟨hx, hb9, hml, hown, hts⟩ (hM H.size) (va_cwS n hts hG rfl rfl rfl hd hR) ⟨PE_blind, fun U hU hW => ⟨rfl, by rw [hU], by rw [hU]; exact hP, va_K.moved hW.alike hK, hD.weaken (fun _ _ _ _ => trivial), NX.warm hW hN⟩⟩ rfl hn h.1 rfl (lv_room hst) hdg hf) hS (fun q _ h => hFc q h) hFc (fun r u t H1 locs1 ht hvm hw hB hz1 hk1 hS1 => ?_)
  obtain ⟨hP1, hK1, hD1⟩ := hB
  rw [ht] at hP1
  obtain ⟨hP2, hD2⟩ := hsp.J hP hD hk1 hFc hP1 hD1
  exact kk r u hw H1 locs1 ls hP2 hD2 hS1 h
theorem wcallV_v (K : KE p s m args c cc nL own y0 r0 D θ A) (hN : NX s) {y : MethodName} {bytes : ByteArray} {maxL j index n mc ms : Nat} {ret : Option FieldType} {As : List Value} {st0 : List Value} {b ci : Nat} {post : Cz → Prop} (hM : CWv l D θ y bytes maxL ret j mc ms (.ref b :: As) κ post) (hG : GoodIn (.code y0 cc nL r0 :: lw_gt) (wsV own index y.cls y (.code y bytes maxL ret :: lw_gt))) (hd : y.cls ≠ "java/lang/invoke/MethodHandle" ∧ y.cls ≠ "java/lang/invoke/VarHandle" ∧ (parseMethodDescriptor y.desc).map (fun d => d.parameters.length) = some n) (hR : (rmA j mc ms).frames + 1 ≤ R.frames ∧ 8 + (maxL + 11) + (rmA j mc ms).locals ≤ R.locals) (hn : As.length = n) (hb : isK κ b ci = true) (hci : ci < 12) {T : u_T} {N : Nat} (hc : vwCl[ci]? = some (y.cls, T, N)) (hst : (st.map fun v => v.category).sum ≤ 8) (hs0 : st0 = As.reverse ++ .ref b :: st) (hdg : decode cc pc = .ok (.invokevirtual index, 3)) (hf : ce + mc ≤ R.cells ∧ sl + ms ≤ R.slots) (kk : ∀ κ1 : Cz, post κ1 → JE p l e R s m args below meth c D θ A nL (ce + mc) (sl + ms) Q κ1 lv st (pc + 3)) : JE p l e R s m args below meth c D θ A nL ce sl Q κ lv st0 pc := by
  intro H locs ls hP hD hS h
  subst hs0
  obtain ⟨hx, hb9, hml, hown, hts, hK, hA⟩ := K
  have hsp := sp_all (wE θ κ)
  have hFc := hsp.F hD hS hA
  obtain ⟨q0, he⟩ := wE_get θ (isK_m hb)
  rw [cE_o θ (isK_k hb) hci] at he
  refine va_callv (va_runV (As := As) (rest := st) ⟨hx, hb9, hml, hown, hts⟩ (hM H.size) (cwV n hts hG rfl rfl rfl ⟨rfl, hd⟩ hR) ⟨PE_blind, va_recv hK hP hc he, fun U hU hW => ⟨rfl, by rw [hU], by rw [hU]; exact hP, va_K.moved hW.alike hK, hD.weaken (fun _ _ _ _ => trivial), NX.warm hW hN⟩⟩ rfl hn h.1 rfl (lv_room hst) hdg hf) hS (fun q _ h => hFc q h) hFc (fun u t H1 locs1 ht hvm hw hB hz1 hk1 hS1 => ?_)
  obtain ⟨hP1, hK1, hD1⟩ := hB
  rw [ht] at hP1
  obtain ⟨hP2, hD2⟩ := hsp.J hP hD hk1 hFc hP1 hD1
  exact kk u hw H1 locs1 ls hP2 hD2 hS1 h
theorem wcallS_v (K : KE p s m args c cc nL own y0 r0 D θ A) (hN : NX s) {y : MethodName} {bytes : ByteArray} {maxL j index n mc ms : Nat} {ret : Option FieldType} {As : List Value} {st0 : List Value} {post : Cz → Prop} (hM : CWv l D θ y bytes maxL ret j mc ms As κ post) (hG : GoodIn (.code y0 cc nL r0 :: lw_gt) (va_wsS own index y (.code y bytes maxL ret :: lw_gt))) (hd : y.cls ≠ "java/lang/invoke/MethodHandle" ∧ y.cls ≠ "java/lang/invoke/VarHandle" ∧ (parseMethodDescriptor y.desc).map (fun d => d.parameters.length) = some n) (hR : (rmA j mc ms).frames + 1 ≤ R.frames ∧ 8 + (maxL + 11) + (rmA j mc ms).locals ≤ R.locals) (hn : As.length = n) (hst : (st.map fun v => v.category).sum ≤ 8) (hs0 : st0 = As.reverse ++ st) (hdg : decode cc pc = .ok (.invokestatic index, 3)) (hf : ce + mc ≤ R.cells ∧ sl + ms ≤ R.slots) (kk : ∀ κ1 : Cz, post κ1 → JE p l e R s m args below meth c D θ A nL (ce + mc) (sl + ms) Q κ1 lv st (pc + 3)) : JE p l e R s m args below meth c D θ A nL ce sl Q κ lv st0 pc := by
  intro H locs ls hP hD hS h
  subst hs0
  obtain ⟨hx, hb9, hml, hown, hts, hK, hA⟩ := K
  have hsp := sp_all (wE θ κ)
  have hFc := hsp.F hD hS hA
  refine va_callv (va_runS (As := As) (rest := st) ⟨hx, hb9, hml, hown, hts⟩ (hM H.size) (va_cwS n hts hG rfl rfl rfl hd hR) ⟨PE_blind, fun U hU hW => ⟨rfl, by rw [hU], by rw [hU]; exact hP, va_K.moved hW.alike hK, hD.weaken (fun _ _ _ _ => trivial), NX.warm hW hN⟩⟩ rfl hn h.1 rfl (lv_room hst) hdg hf) hS (fun q _ h => hFc q h) hFc (fun u t H1 locs1 ht hvm hw hB hz1 hk1 hS1 => ?_)
  obtain ⟨hP1, hK1, hD1⟩ := hB
  rw [ht] at hP1
  obtain ⟨hP2, hD2⟩ := hsp.J hP hD hk1 hFc hP1 hD1
  exact kk u hw H1 locs1 ls hP2 hD2 hS1 h
theorem wcallI_v (K : KE p s m args c cc nL own y0 r0 D θ A) (hN : NX s) {y : MethodName} {bytes : ByteArray} {maxL j index n mc ms : Nat} {As : List Value} {st0 : List Value} {b : Nat} {post : Cz → Prop} (hM : CWv l D θ y bytes maxL none j mc ms (.ref b :: As) κ post) (hcode : Cond.code y bytes maxL none ∈ lw_gt) (hini : Cond.initialized y.cls ∈ lw_gt) (hsta : Cond.instanceMethod y ∈ lw_gt) (hlk : Cond.methodLink own index y ∈ lw_gt) (hyn : y.name = "<init>") (hd : y.cls ≠ "java/lang/invoke/MethodHandle" ∧ y.cls ≠ "java/lang/invoke/VarHandle" ∧ (parseMethodDescriptor y.desc).map (fun d => d.parameters.length) = some n) (hR : (rmA j mc ms).frames + 1 ≤ R.frames ∧ 8 + (maxL + 11) + (rmA j mc ms).locals ≤ R.locals) (hn : As.length = n) (hst : (st.map fun v => v.category).sum ≤ 8) (hs0 : st0 = As.reverse ++ .ref b :: st) (hdg : decode cc pc = .ok (.invokespecial index, 3)) (hf : ce + mc ≤ R.cells ∧ sl + ms ≤ R.slots) (kk : ∀ κ1 : Cz, post κ1 → JE p l e R s m args below meth c D θ A nL (ce + mc) (sl + ms) Q κ1 lv st (pc + 3)) : JE p l e R s m args below meth c D θ A nL ce sl Q κ lv st0 pc := by
  intro H locs ls hP hD hS h
  subst hs0
  obtain ⟨hx, hb9, hml, hown, hts, hK, hA⟩ := K
  have hsp := sp_all (wE θ κ)
  have hFc := hsp.F hD hS hA
  refine va_callv (va_runI (As := As) (rest := st) ⟨hx, hb9, hml, hown, hts⟩ (hM H.size) ⟨callB_of n hts (gd_tab hcode) rfl rfl rfl (hts _ (List.mem_cons_of_mem _ hini)) (hts _ (List.mem_cons_of_mem _ hlk)) hd hR, hyn, hts _ (List.mem_cons_of_mem _ hsta)⟩ ⟨PE_blind, fun U hU hW => ⟨rfl, by rw [hU], by rw [hU]; exact hP, va_K.moved hW.alike hK, hD.weaken (fun _ _ _ _ => trivial), NX.warm hW hN⟩⟩ rfl hn h.1 rfl (lv_room hst) hdg hf) hS (fun q _ h => hFc q h) hFc (fun u t H1 locs1 ht hvm hw hB hz1 hk1 hS1 => ?_)
  obtain ⟨hP1, hK1, hD1⟩ := hB
  rw [ht] at hP1
  obtain ⟨hP2, hD2⟩ := hsp.J hP hD hk1 hFc hP1 hD1
  exact kk u hw H1 locs1 ls hP2 hD2 hS1 h
theorem wcallJ_v (K : KE p s m args c cc nL own y0 r0 D θ A) (hN : NX s) {y : MethodName} {bytes : ByteArray} {maxL j index n mc ms : Nat} {As : List Value} {st0 : List Value} {b : Nat} {post : Cz → Prop} (hM : CWv l D θ y bytes maxL none j mc ms (.ref b :: As) κ post) {host : String} (hcode : Cond.code y bytes maxL none ∈ lw_gt) (hini : Cond.initialized y.cls ∈ lw_gt) (hsta : Cond.instanceMethod y ∈ lw_gt) (hnl : va_Nw (.methodLinkNest own index y host) s) (hyn : y.name = "<init>") (hd : y.cls ≠ "java/lang/invoke/MethodHandle" ∧ y.cls ≠ "java/lang/invoke/VarHandle" ∧ (parseMethodDescriptor y.desc).map (fun d => d.parameters.length) = some n) (hR : (rmA j mc ms).frames + 1 ≤ R.frames ∧ 8 + (maxL + 11) + (rmA j mc ms).locals ≤ R.locals) (hn : As.length = n) (hst : (st.map fun v => v.category).sum ≤ 8) (hs0 : st0 = As.reverse ++ .ref b :: st) (hdg : decode cc pc = .ok (.invokespecial index, 3)) (hf : ce + mc ≤ R.cells ∧ sl + ms ≤ R.slots) (kk : ∀ κ1 : Cz, post κ1 → JE p l e R s m args below meth c D θ A nL (ce + mc) (sl + ms) Q κ1 lv st (pc + 3)) : JE p l e R s m args below meth c D θ A nL ce sl Q κ lv st0 pc := by
  intro H locs ls hP hD hS h
  subst hs0
  obtain ⟨hx, hb9, hml, hown, hts, hK, hA⟩ := K
  have hsp := sp_all (wE θ κ)
  have hFc := hsp.F hD hS hA
  refine va_callv (va_runIN (As := As) (rest := st) ⟨hx, hb9, hml, hown, hts⟩ (hM H.size) ⟨va_cnB n hts (gd_tab hcode) rfl rfl rfl hnl (hts _ (List.mem_cons_of_mem _ hini)) hd hR, hyn, hts _ (List.mem_cons_of_mem _ hsta)⟩ ⟨PE_blind, fun U hU hW => ⟨rfl, by rw [hU], by rw [hU]; exact hP, va_K.moved hW.alike hK, hD.weaken (fun _ _ _ _ => trivial), NX.warm hW hN⟩⟩ rfl hn h.1 rfl (lv_room hst) hdg hf) hS (fun q _ h => hFc q h) hFc (fun u t H1 locs1 ht hvm hw hB hz1 hk1 hS1 => ?_)
  obtain ⟨hP1, hK1, hD1⟩ := hB
  rw [ht] at hP1
  obtain ⟨hP2, hD2⟩ := hsp.J hP hD hk1 hFc hP1 hD1
  exact kk u hw H1 locs1 ls hP2 hD2 hS1 h
theorem e_clone (K : KE p s m args c cc nL own y0 r0 D θ A) (hN : NX s) {index a : Nat} (hl : Cond.methodLink own index ⟨"[I", "clone", "()Ljava/lang/Object;"⟩ ∈ lw_gt) (hsm : Cond.sameMethod "[I" "java/lang/Object" "clone" "()Ljava/lang/Object;" ∈ lw_gt) (hna : Cond.native ⟨"java/lang/Object", "clone", "()Ljava/lang/Object;"⟩ ∈ lw_gt) (hi : Cond.instanceMethod ⟨"java/lang/Object", "clone", "()Ljava/lang/Object;"⟩ ∈ lw_gt) (hse : Cond.selects "[I" ⟨"[I", "clone", "()Ljava/lang/Object;"⟩ ⟨"java/lang/Object", "clone", "()Ljava/lang/Object;"⟩ ∈ lw_gt) (ha : isK κ a 20 = true) (B : Nat) (hB : ln κ a ≤ B) (hfr : 1 ≤ R.frames) (hlo : (st.map fun v => v.category).sum + 14 ≤ R.locals) (hce : ce + 1 ≤ R.cells) (hsl : sl + B ≤ R.slots) (hdg : decode cc pc = .ok (.invokevirtual index, 3)) (kk : ∀ q, q ∉ Lk κ → JE p l e R s m args below meth c D θ A nL (ce + 1) (sl + B) Q (sai q (ai κ a) (nw q 20 (ln κ a) κ)) lv (.ref q :: st) (pc + 3)) : JE p l e R s m args below meth c D θ A nL ce sl Q κ lv (.ref a :: st) pc := fun H locs ls hP hD hS h => by
  obtain ⟨q0, h0⟩ := wE_get θ (isK_m ha)
  rw [cE_i θ (isK_k ha)] at h0
  refine va_clone K.1 K.2.1 (K.2.2.1.trans h.1.symm) K.2.2.2.1 (K.2.2.2.2.1 _ (List.mem_cons_of_mem _ hl)) (K.2.2.2.2.1 _ (List.mem_cons_of_mem _ hsm)) (K.2.2.2.2.1 _ (List.mem_cons_of_mem _ hna)) (K.2.2.2.2.1 _ (List.mem_cons_of_mem _ hi)) (K.2.2.2.2.1 _ (List.mem_cons_of_mem _ hse)) (NX_clone hN) K.2.2.2.2.2.1 hP hD hS K.2.2.2.2.2.2 q0 0 (ty := .int) h0 rfl (K.2.2.2.2.2.1.2 0 _ rfl).2 (fun i v hv => ?_) hfr hlo hce (Nat.le_trans (Nat.add_le_add_left hB sl) hsl) hdg (fun q H1 k1 p1 d1 s1 => ?_)
  · have hlt : i < ln κ a := by
      have h5 := (Array.getElem?_eq_some_iff.mp hv).1
      rwa [show (vp_cell (θ 0) (ln κ a, .inl (ai κ a))).slots.size = ln κ a from arrV_size _ _ _] at h5
    have h6 := arrV_read (θ 0) (fun j => Value.int (ai κ a j)) hlt
    rw [show (vp_cell (θ 0) (ln κ a, .inl (ai κ a))).slots[i]? = some (.int (ai κ a i)) from h6] at hv
    cases hv
    rfl
  have hq := wE_new d1
  have hw := wE_push θ (k := 20) (n := ln κ a) (e := cE θ (nw q 20 (ln κ a) κ) q) hq rfl
  have hL : Lk (sai q (ai κ a) (nw q 20 (ln κ a) κ)) = Lk κ ++ [q] := rfl
  have hw2 : wE θ κ ++ [(q, .inl (θ 0, ln κ a, .inl (ai κ a)))] = wE θ (sai q (ai κ a) (nw q 20 (ln κ a) κ)) := by
    have h1 := va_pl_push (L := Lk κ) (f := cE θ κ) (a := q) (e := .inl (θ 0, ln κ a, .inl (ai κ a))) hq
    refine h1.trans (va_pl_congr (fun b => ?_))
    by_cases hb : b = q
    · subst hb
      rw [va_up_self, cE_i θ (show kd (sai b (ai κ a) (nw b 20 (ln κ a) κ)) b = 20 from va_up_self _ _ _)]
      simp only [sai, nw, ln, ai, va_up_self]
    · rw [va_up_ne _ _ hb, cE_oai θ _ _ hb, cE_onw θ κ hb]
  exact W.widen (Nat.le_refl _) (Nat.add_le_add_left hB sl) (kk q hq H1 locs ls (hw2 ▸ p1) (hw2 ▸ d1) s1 h)
theorem e_castI (K : KE p s m args c cc nL own y0 r0 D θ A) {index a : Nat} (hl : Cond.classLink own index "[I" ∈ lw_gt) (ha : isK κ a 20 = true) (hdg : decode cc pc = .ok (.checkcast index, 3)) (kk : JE p l e R s m args below meth c D θ A nL ce sl Q κ lv (.ref a :: st) (pc + 3)) : JE p l e R s m args below meth c D θ A nL ce sl Q κ lv (.ref a :: st) pc := fun H locs ls hP hD hS h => by
  obtain ⟨q0, h0⟩ := wE_get θ (isK_m ha)
  rw [cE_i θ (isK_k ha)] at h0
  exact va_castA K.1 K.2.1 K.2.2.2.1 (K.2.2.2.2.1 _ (List.mem_cons_of_mem _ hl)) hP q0 h0 (K.2.2.2.2.2.1.2 0 _ rfl).2 hdg (kk H locs ls hP hD hS h)
end WRows
