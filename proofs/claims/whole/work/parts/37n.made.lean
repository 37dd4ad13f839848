/-! a rule is made: its rows are copied -/
theorem cpy_at (f g : Nat → Int32) {n i : Nat} (hi : i < n) : va_cpy f g 0 0 n i = f i := by
  unfold va_cpy
  rw [if_pos ⟨Nat.zero_le _, by omega⟩, Nat.zero_add, Nat.sub_zero]
theorem w_copyI (N : Nat) {κ : Cz} {a z m : Nat} {post : Option Nat → Cz → Prop} (hk : isK κ a 20 = true) (hl : ln κ a = m) (hm : m ≤ 401) (hz : z ≤ m) (h : ∀ q f, q ∉ Lk κ → (∀ i, i < z → f i = ai κ a i) → post (some q) (sai q f (nw q 20 z κ))) : w_Arrays_copyOf N a (nI z) κ post := by
  unfold w_Arrays_copyOf
  rw [hk, wck_1, hl]
  by_cases e : z = m
  · subst e
    rw [wif_y rfl, show decide (z ≤ 401) = true from decide_eq_true hm, wck_1]
    intro q hq
    rw [wlt_s]
    exact h q (ai κ a) hq (fun i _ => rfl)
  · have hzm : nI z < nI m := (nI_ltI (by omega) (by omega)).mpr (by omega)
    rw [wif_n (fun y => e ((nI_eq (by omega) (by omega)).mp y)), show decide (¬ nI z < 0 ∧ (nI z).toNatClampNeg ≤ 401) = true from decide_eq_true ⟨nI_pos (by omega), by rw [clN (by omega)]; omega⟩, wck_1]
    intro q hq
    have qa : ¬ a = q := fun y => hq (y ▸ isK_m hk)
    rw [wlt_s, wlt_s, clN (show z < 2147483648 by omega), ln_nw, if_neg qa, hl, if_pos hzm, show decide (¬ nI z < 0) = true from decide_eq_true (nI_pos (by omega)), wck_1, clN (show z < 2147483648 by omega), k0, Nat.zero_add, show decide (z ≤ m) = true from decide_eq_true hz, wck_1, ln_nw, if_pos rfl, show decide (z ≤ z) = true from decide_eq_true (Nat.le_refl z), wck_1, wlt_s]
    refine h q _ hq (fun i hi => ?_)
    rw [cpy_at _ _ hi, ai_nw, if_neg qa]
theorem Xn.cp {κ : Cz} {q : Nat} (hq : q ∉ Lk κ) (z : Nat) (f : Nat → Int32) : Xn κ (sai q f (nw q 20 z κ)) := by
  have x : Xb (fun a => a = q) κ (sai q f (nw q 20 z κ)) := (Xb.new hq 20 z).trans (Xb.ra (B := fun a => a = q) _ rfl f)
  exact x.mono (fun a ha hb => hq (hb ▸ ha))
theorem isK_cp {κ : Cz} {q z : Nat} {f : Nat → Int32} : isK (sai q f (nw q 20 z κ)) q 20 = true := by
  rw [isK_ai]
  exact isK_nwS q 20 z κ
theorem ln_cp {κ : Cz} {q z : Nat} {f : Nat → Int32} : ln (sai q f (nw q 20 z κ)) q = z := by
  rw [ln_ai, ln_nw, if_pos rfl]
theorem ai_cp {κ : Cz} {q z : Nat} {f : Nat → Int32} : ai (sai q f (nw q 20 z κ)) q = f := by
  rw [ai_ai, if_pos rfl]
theorem w_madeI (N : Nat) {κ : Cz} {A : Nat → Nat} (hs : Sh κ A) {z c : Nat} (h4 : fi κ (A 15) 4 = nI z) (hz : z ≤ 400) (h5 : fi κ (A 15) 5 = nI c) (hc : c ≤ 12) {post : Option Nat → Cz → Prop} (h : ∀ (κ1 : Cz) (Q : Nat → Nat), sRu κ1 Q 0 z c → Xn κ κ1 → (∀ i, i < 5 → Q i ∉ Lk κ) → In1 Q 5 → (∀ i, i < z → ai κ1 (Q 1) i = ai κ (A 16) i) → (∀ i, i < c → ai κ1 (Q 2) i = ai κ (A 17) i) → (∀ i, i < c → ai κ1 (Q 3) i = ai κ (A 18) i) → post (some (Q 0)) κ1) : w_RuleReader_made N (A 15) κ post := by
  have r := hs.rR
  unfold w_RuleReader_made
  intro n1 h1
  rw [wlt_s]
  have xa : Xn κ (nw n1 6 0 κ) := Xb.new h1 6 0
  have ka : isK (nw n1 6 0 κ) n1 6 = true := isK_nwS n1 6 0 κ
  generalize hκa : nw n1 6 0 κ = κa at *
  have O : ∀ {κ'}, Xn κ κ' → ∀ r, r ≤ 72 → (∀ k, isK κ' (A r) k = isK κ (A r) k) ∧ ln κ' (A r) = ln κ (A r) ∧ fi κ' (A r) = fi κ (A r) ∧ fr κ' (A r) = fr κ (A r) ∧ ai κ' (A r) = ai κ (A r) ∧ aq κ' (A r) = aq κ (A r) := fun x r hr => x.all (hs.mem r hr)
  rw [(O xa 15 (by omega)).1, r.1, wck_1, (O xa 15 (by omega)).2.2.2.1, r.2.2.1, wbo_s, (O xa 15 (by omega)).2.2.1, h4]
  refine w_copyI N (by rw [(O xa 16 (by omega)).1]; exact r.2.2.2.2.2.1) (by rw [(O xa 16 (by omega)).2.1]; exact r.2.2.2.2.2.2.1) (by omega) hz (fun q5 f5 hq5 e5 => ?_)
  have xab := Xn.cp hq5 z f5
  have xb : Xn κ (sai q5 f5 (nw q5 20 z κa)) := xa.trans xab
  have b1 : isK (sai q5 f5 (nw q5 20 z κa)) q5 20 = true := isK_cp
  have b2 : ln (sai q5 f5 (nw q5 20 z κa)) q5 = z := ln_cp
  have b3 : ai (sai q5 f5 (nw q5 20 z κa)) q5 = f5 := ai_cp
  generalize hκb : sai q5 f5 (nw q5 20 z κa) = κb at *
  show wbo (some q5) _
  rw [wbo_s, (O xb 15 (by omega)).1, r.1, wck_1, (O xb 15 (by omega)).2.2.2.1, r.2.2.2.1, wbo_s, (O xb 15 (by omega)).2.2.1, h5]
  refine w_copyI N (by rw [(O xb 17 (by omega)).1]; exact r.2.2.2.2.2.2.2.1) (by rw [(O xb 17 (by omega)).2.1]; exact r.2.2.2.2.2.2.2.2.1) (by omega) hc (fun q9 f9 hq9 e9 => ?_)
  have xbc := Xn.cp hq9 c f9
  have xc : Xn κ (sai q9 f9 (nw q9 20 c κb)) := xb.trans xbc
  have c1 : isK (sai q9 f9 (nw q9 20 c κb)) q9 20 = true := isK_cp
  have c2 : ln (sai q9 f9 (nw q9 20 c κb)) q9 = c := ln_cp
  have c3 : ai (sai q9 f9 (nw q9 20 c κb)) q9 = f9 := ai_cp
  generalize hκc : sai q9 f9 (nw q9 20 c κb) = κc at *
  show wbo (some q9) _
  rw [wbo_s, (O xc 15 (by omega)).1, r.1, wck_1, (O xc 15 (by omega)).2.2.2.1, r.2.2.2.2.1, wbo_s, (O xc 15 (by omega)).2.2.1, h5]
  refine w_copyI N (by rw [(O xc 18 (by omega)).1]; exact r.2.2.2.2.2.2.2.2.2.1) (by rw [(O xc 18 (by omega)).2.1]; exact r.2.2.2.2.2.2.2.2.2.2) (by omega) hc (fun q13 f13 hq13 e13 => ?_)
  have xcd := Xn.cp hq13 c f13
  have xd : Xn κ (sai q13 f13 (nw q13 20 c κc)) := xc.trans xcd
  have d1 : isK (sai q13 f13 (nw q13 20 c κc)) q13 20 = true := isK_cp
  have d2 : ln (sai q13 f13 (nw q13 20 c κc)) q13 = c := ln_cp
  have d3 : ai (sai q13 f13 (nw q13 20 c κc)) q13 = f13 := ai_cp
  generalize hκd : sai q13 f13 (nw q13 20 c κc) = κd at *
  show wbo (some q13) _
  rw [wbo_s]
  -- the Rule itself
  have xad : Xn κa κd := (xab.trans xbc).trans xcd
  have xbd : Xn κb κd := xbc.trans xcd
  have kd1 : isK κd n1 6 = true := xad.isk ka
  have ma : n1 ∈ Lk κa := isK_m ka
  have mb : n1 ∈ Lk κb := (xab n1 ma).1
  have mc : n1 ∈ Lk κc := (xbc n1 mb).1
  have md : n1 ∈ Lk κd := (xcd n1 mc).1
  have m5b : q5 ∈ Lk κb := isK_m b1
  have m5c : q5 ∈ Lk κc := (xbc q5 m5b).1
  have m5d : q5 ∈ Lk κd := (xcd q5 m5c).1
  have m9c : q9 ∈ Lk κc := isK_m c1
  have m9d : q9 ∈ Lk κd := (xcd q9 m9c).1
  have m13 : q13 ∈ Lk κd := isK_m d1
  have s15 : ¬ n1 = q5 := fun y => hq5 (y ▸ ma)
  have s19 : ¬ n1 = q9 := fun y => hq9 (y ▸ mb)
  have s113 : ¬ n1 = q13 := fun y => hq13 (y ▸ mc)
  have s59 : ¬ q5 = q9 := fun y => hq9 (y ▸ m5b)
  have s513 : ¬ q5 = q13 := fun y => hq13 (y ▸ m5c)
  have s913 : ¬ q9 = q13 := fun y => hq13 (y ▸ m9c)
  unfold w_Rule_init
  rw [kd1, wck_1, wlt_s, wlt_s, wlt_s, isK_fr, isK_fr, isK_fr, xbd.isk b1, wck_1, ln_fr, ln_fr, ln_fr, (xbd.all m5b).2.1, b2, nI_1, wlt_s, show decide (¬ nI (z + 1) < 0 ∧ (nI (z + 1)).toNatClampNeg ≤ 401) = true from decide_eq_true ⟨nI_pos (by omega), by rw [clN (by omega)]; omega⟩, wck_1, clN (show z + 1 < 2147483648 by omega)]
  intro n8 h8
  have h8d : n8 ∉ Lk κd := h8
  rw [wlt_s, wlt_s]
  have s18 : ¬ n1 = n8 := fun y => h8d (y ▸ md)
  have s58 : ¬ q5 = n8 := fun y => h8d (y ▸ m5d)
  have s98 : ¬ q9 = n8 := fun y => h8d (y ▸ m9d)
  have s138 : ¬ q13 = n8 := fun y => h8d (y ▸ m13)
  have xe : Xb (fun a => a = n1) κd (sfr n1 3 (some n8) (nw n8 21 (z + 1) (sfr n1 2 (some q13) (sfr n1 1 (some q9) (sfr n1 0 (some q5) κd))))) := ((((Xb.rf (B := fun a => a = n1) _ rfl 0 _).trans (Xb.rf (B := fun a => a = n1) _ rfl 1 _)).trans (Xb.rf (B := fun a => a = n1) _ rfl 2 _)).trans (Xb.new h8 21 _)).trans (Xb.rf (B := fun a => a = n1) _ rfl 3 _)
  have fr0 : fr (sfr n1 3 (some n8) (nw n8 21 (z + 1) (sfr n1 2 (some q13) (sfr n1 1 (some q9) (sfr n1 0 (some q5) κd))))) n1 0 = some q5 := by
    rw [fr_fr, if_neg (by simp), fr_nw, if_neg s18, fr_fr, if_neg (by simp), fr_fr, if_neg (by simp), fr_fr, if_pos ⟨rfl, rfl⟩]
  have fr1 : fr (sfr n1 3 (some n8) (nw n8 21 (z + 1) (sfr n1 2 (some q13) (sfr n1 1 (some q9) (sfr n1 0 (some q5) κd))))) n1 1 = some q9 := by
    rw [fr_fr, if_neg (by simp), fr_nw, if_neg s18, fr_fr, if_neg (by simp), fr_fr, if_pos ⟨rfl, rfl⟩]
  have fr2 : fr (sfr n1 3 (some n8) (nw n8 21 (z + 1) (sfr n1 2 (some q13) (sfr n1 1 (some q9) (sfr n1 0 (some q5) κd))))) n1 2 = some q13 := by
    rw [fr_fr, if_neg (by simp), fr_nw, if_neg s18, fr_fr, if_pos ⟨rfl, rfl⟩]
  have fr3 : fr (sfr n1 3 (some n8) (nw n8 21 (z + 1) (sfr n1 2 (some q13) (sfr n1 1 (some q9) (sfr n1 0 (some q5) κd))))) n1 3 = some n8 := by
    rw [fr_fr, if_pos ⟨rfl, rfl⟩]
  have k8 : isK (sfr n1 3 (some n8) (nw n8 21 (z + 1) (sfr n1 2 (some q13) (sfr n1 1 (some q9) (sfr n1 0 (some q5) κd))))) n8 21 = true := by
    rw [isK_fr]
    exact isK_nwS n8 21 (z + 1) _
  have l8 : ln (sfr n1 3 (some n8) (nw n8 21 (z + 1) (sfr n1 2 (some q13) (sfr n1 1 (some q9) (sfr n1 0 (some q5) κd))))) n8 = z + 1 := by
    rw [ln_fr, ln_nw, if_pos rfl]
  generalize hκe : sfr n1 3 (some n8) (nw n8 21 (z + 1) (sfr n1 2 (some q13) (sfr n1 1 (some q9) (sfr n1 0 (some q5) κd)))) = κe at *
  have xke : Xn κ κe := by
    have x1 : Xb (fun a => a = n1) κ κe := (xd.mono (fun a _ y => y.elim)).trans xe
    exact x1.mono (fun a ha hb => h1 (hb ▸ ha))
  have aie : ∀ {a}, a ∈ Lk κd → ¬ a = n1 → ai κe a = ai κd a := fun ha hn => ((xe _ ha).2.2.2 hn).2.2.1
  have n5 : q5 ∉ Lk κ := fun y => hq5 (xa q5 y).1
  have n9 : q9 ∉ Lk κ := fun y => hq9 (xb q9 y).1
  have n13 : q13 ∉ Lk κ := fun y => hq13 (xc q13 y).1
  have n8' : n8 ∉ Lk κ := fun y => h8d (xd n8 y).1
  refine h κe (fun i => if i = 0 then n1 else if i = 1 then q5 else if i = 2 then q9 else if i = 3 then q13 else n8) ?_ xke ?_ ?_ ?_ ?_ ?_
  · refine ⟨xe.isk kd1, fr0, fr1, fr2, fr3, xe.isk (xbd.isk b1), ?_, xe.isk (xcd.isk c1), ?_, xe.isk d1, ?_, k8, l8⟩
    · show ln κe q5 = z
      rw [xe.lnn m5d, (xbd.all m5b).2.1]; exact b2
    · show ln κe q9 = c
      rw [xe.lnn m9d, (xcd.all m9c).2.1]; exact c2
    · show ln κe q13 = c
      rw [xe.lnn m13]; exact d2
  · intro i hi
    match i, hi with
    | 0, _ => exact h1
    | 1, _ => exact n5
    | 2, _ => exact n9
    | 3, _ => exact n13
    | 4, _ => exact n8'
  · intro i j hi hj e
    match i, hi, j, hj with
    | 0, _, 0, _ => rfl
    | 0, _, 1, _ => exact absurd e s15
    | 0, _, 2, _ => exact absurd e s19
    | 0, _, 3, _ => exact absurd e s113
    | 0, _, 4, _ => exact absurd e s18
    | 1, _, 0, _ => exact absurd e.symm s15
    | 1, _, 1, _ => rfl
    | 1, _, 2, _ => exact absurd e s59
    | 1, _, 3, _ => exact absurd e s513
    | 1, _, 4, _ => exact absurd e s58
    | 2, _, 0, _ => exact absurd e.symm s19
    | 2, _, 1, _ => exact absurd e.symm s59
    | 2, _, 2, _ => rfl
    | 2, _, 3, _ => exact absurd e s913
    | 2, _, 4, _ => exact absurd e s98
    | 3, _, 0, _ => exact absurd e.symm s113
    | 3, _, 1, _ => exact absurd e.symm s513
    | 3, _, 2, _ => exact absurd e.symm s913
    | 3, _, 3, _ => rfl
    | 3, _, 4, _ => exact absurd e s138
    | 4, _, 0, _ => exact absurd e.symm s18
    | 4, _, 1, _ => exact absurd e.symm s58
    | 4, _, 2, _ => exact absurd e.symm s98
    | 4, _, 3, _ => exact absurd e.symm s138
    | 4, _, 4, _ => rfl
  · intro i hi
    show ai κe q5 i = ai κ (A 16) i
    rw [aie m5d (fun y => s15 y.symm), (xbd.all m5b).2.2.2.2.1, b3, e5 i hi, (O xa 16 (by omega)).2.2.2.2.1]
  · intro i hi
    show ai κe q9 i = ai κ (A 17) i
    rw [aie m9d (fun y => s19 y.symm), (xcd.all m9c).2.2.2.2.1, c3, e9 i hi, (O xb 17 (by omega)).2.2.2.2.1]
  · intro i hi
    show ai κe q13 i = ai κ (A 18) i
    rw [aie m13 (fun y => s113 y.symm), d3, e13 i hi, (O xc 18 (by omega)).2.2.2.2.1]
