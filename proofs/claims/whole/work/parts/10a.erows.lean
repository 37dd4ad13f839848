theorem ek_ErrataRow_364 : Cond.constantLong "ErrataRow" 364 (1103515245) ∈ lw_gt := lw_at 1197 (by decide +kernel) rfl
theorem ek_ErrataRow_366 : Cond.constantLong "ErrataRow" 366 (12345) ∈ lw_gt := lw_at 1198 (by decide +kernel) rfl
theorem ek_ErrataRow_368 : Cond.constantLong "ErrataRow" 368 (2147483648) ∈ lw_gt := lw_at 1199 (by decide +kernel) rfl
theorem ek_ErrataRow_370 : Cond.constant "ErrataRow" 370 (65536) ∈ lw_gt := lw_at 1203 (by decide +kernel) rfl
theorem ek_Integer_264 : Cond.constant "java/lang/Integer" 264 (65536) ∈ lw_gt := lw_at 917 (by decide +kernel) rfl
theorem ek_Integer_265 : Cond.constant "java/lang/Integer" 265 (1431655765) ∈ lw_gt := lw_at 929 (by decide +kernel) rfl
theorem ek_Integer_266 : Cond.constant "java/lang/Integer" 266 (858993459) ∈ lw_gt := lw_at 930 (by decide +kernel) rfl
theorem ek_Integer_267 : Cond.constant "java/lang/Integer" 267 (252645135) ∈ lw_gt := lw_at 931 (by decide +kernel) rfl
theorem j_ldcw {p : Program} {l : Launch} {e : Env} {R : Room} {s : State} {m : MethodId} {args : Array Value} {below : List Frame} {meth : Method} {c : Code} {cc : ByteArray} {nL ce sl : Nat} {own : String} {Ts : List Cond} {D : va_G} {cl : List vw_C} {tys : List (ClassId × FieldType)} {A : Nat → Prop} {Q : State → Prop} {ws : va_W} {lv : List (Nat × Value)} {st : List Value} {pc : Nat} (K : KK p s m args c cc nL own Ts D cl tys A) {index : Nat} {v : Int32} (hc : Jvm.Cond.constant own index v ∈ Ts) (hdg : decode cc pc = .ok (.ldc_w index, 3)) (k : JJ p l e R s m args below meth c D cl A nL ce sl Q ws lv (.int v :: st) (pc + 3)) : JJ p l e R s m args below meth c D cl A nL ce sl Q ws lv st pc := fun H locs ls hP hD hS h => lv_ldcw K.1 K.2.1 K.2.2.2.1 (K.2.2.2.2.1 _ hc) hdg (k H locs ls hP hD hS h)
