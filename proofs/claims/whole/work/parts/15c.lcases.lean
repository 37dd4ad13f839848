/-! what the pure side must give: from states that are alike, class and reference answer alike, and are alike again -/
def Sm_feed (N x0 : Nat) (Rel : Cz → Mz → Prop) : Prop := ∀ (κ : Cz) (μ : Mz) (a1 a2 a3 a4 a5 : Int32), Rel κ μ → ∃ (r : Int32) (κ1 : Cz) (μ1 : Mz), p_ErrataRow_feed N x0 a1 a2 a3 a4 a5 κ = some (r, κ1) ∧ p12_feed N a1 a2 a3 a4 a5 μ = some (r, μ1) ∧ Rel κ1 μ1
def Sm_end (N x0 : Nat) (Rel : Cz → Mz → Prop) : Prop := ∀ (κ : Cz) (μ : Mz) (a1 : Int32), Rel κ μ → ∃ (r : Int32) (κ1 : Cz) (μ1 : Mz), p_ErrataRow_end N x0 a1 κ = some (r, κ1) ∧ p12_end N a1 μ = some (r, μ1) ∧ Rel κ1 μ1
def Sm_book (N x0 : Nat) (Rel : Cz → Mz → Prop) : Prop := ∀ (κ : Cz) (μ : Mz), Rel κ μ → ∃ (r : Int32) (κ1 : Cz) (μ1 : Mz), p_ErrataRow_book N x0  κ = some (r, κ1) ∧ p12_book N  μ = some (r, μ1) ∧ Rel κ1 μ1
def Sm_rule (N x0 : Nat) (Rel : Cz → Mz → Prop) : Prop := ∀ (κ : Cz) (μ : Mz), Rel κ μ → ∃ (r : Int32) (μ1 : Mz), p12_rule N  μ = some (r, μ1) ∧ w_ErrataRow_rule N x0  κ (fun r1 κ1 => r1 = r ∧ Rel κ1 μ1)
def Sm_force (N x0 : Nat) (Rel : Cz → Mz → Prop) : Prop := ∀ (κ : Cz) (μ : Mz) (a1 : Int32), Rel κ μ → ∃ (r : Int32) (κ1 : Cz) (μ1 : Mz), p_ErrataRow_force N x0 a1 κ = some (r, κ1) ∧ p12_force N a1 μ = some (r, μ1) ∧ Rel κ1 μ1
def Sm_letter (N x0 : Nat) (Rel : Cz → Mz → Prop) : Prop := ∀ (κ : Cz) (μ : Mz) (a1 a2 : Int32), Rel κ μ → ∃ (r : Int32) (κ1 : Cz) (μ1 : Mz), p_ErrataRow_letter N x0 a1 a2 κ = some (r, κ1) ∧ p12_letter N a1 a2 μ = some (r, μ1) ∧ Rel κ1 μ1
def Sm_habit (N x0 : Nat) (Rel : Cz → Mz → Prop) : Prop := ∀ (κ : Cz) (μ : Mz) (a1 a2 : Int32), Rel κ μ → ∃ (r : Int32) (κ1 : Cz) (μ1 : Mz), p_ErrataRow_habit N x0 a1 a2 κ = some (r, κ1) ∧ p12_habit N a1 a2 μ = some (r, μ1) ∧ Rel κ1 μ1
def Sm_edition (N x0 : Nat) (Rel : Cz → Mz → Prop) : Prop := ∀ (κ : Cz) (μ : Mz), Rel κ μ → ∃ (r : Int32) (μ1 : Mz), p12_edition N  μ = some (r, μ1) ∧ w_ErrataRow_edition N x0  κ (fun r1 κ1 => r1 = r ∧ Rel κ1 μ1)
def Sm_set (N x0 : Nat) (Rel : Cz → Mz → Prop) : Prop := ∀ (κ : Cz) (μ : Mz) (a1 a2 : Int32), Rel κ μ → ∃ (r : Int32) (μ1 : Mz), p12_set N a1 a2 μ = some (r, μ1) ∧ w_ErrataRow_set N x0 a1 a2 κ (fun r1 κ1 => r1 = r ∧ Rel κ1 μ1)
def Sm_mend (N x0 : Nat) (Rel : Cz → Mz → Prop) : Prop := ∀ (κ : Cz) (μ : Mz) (a1 : Int32), Rel κ μ → ∃ (r : Int32) (μ1 : Mz), p12_mend N a1 μ = some (r, μ1) ∧ w_ErrataRow_mend N x0 a1 κ (fun r1 κ1 => r1 = r ∧ Rel κ1 μ1)
def Sm_hang (N x0 : Nat) (Rel : Cz → Mz → Prop) : Prop := ∀ (κ : Cz) (μ : Mz) (a1 a2 : Int32), Rel κ μ → ∃ (r : Int32) (μ1 : Mz), p12_hang N a1 a2 μ = some (r, μ1) ∧ w_ErrataRow_hang N x0 a1 a2 κ (fun r1 κ1 => r1 = r ∧ Rel κ1 μ1)
def Sm_fill (N x0 : Nat) (Rel : Cz → Mz → Prop) : Prop := ∀ (κ : Cz) (μ : Mz) (a1 : Int32), Rel κ μ → ∃ (r : Int32) (μ1 : Mz), p12_fill N a1 μ = some (r, μ1) ∧ w_ErrataRow_fill N x0 a1 κ (fun r1 κ1 => r1 = r ∧ Rel κ1 μ1)
def Sm_undo (N x0 : Nat) (Rel : Cz → Mz → Prop) : Prop := ∀ (κ : Cz) (μ : Mz), Rel κ μ → ∃ (r : Int32) (κ1 : Cz) (μ1 : Mz), p_ErrataRow_undo N x0  κ = some (r, κ1) ∧ p12_undo N  μ = some (r, μ1) ∧ Rel κ1 μ1
def Sm_ahead (N x0 : Nat) (Rel : Cz → Mz → Prop) : Prop := ∀ (κ : Cz) (μ : Mz) (a1 a2 a3 : Int32), Rel κ μ → ∃ (r : Int32) (κ1 : Cz) (μ1 : Mz), p_ErrataRow_ahead N x0 a1 a2 a3 κ = some (r, κ1) ∧ p12_ahead N a1 a2 a3 μ = some (r, μ1) ∧ Rel κ1 μ1
def Sm_allRight (N x0 : Nat) (Rel : Cz → Mz → Prop) : Prop := ∀ (κ : Cz) (μ : Mz), Rel κ μ → ∃ (r : Int32) (κ1 : Cz) (μ1 : Mz), p_ErrataRow_allRight N x0  κ = some (r, κ1) ∧ p12_allRight N  μ = some (r, μ1) ∧ Rel κ1 μ1
def Sm_firstRight (N x0 : Nat) (Rel : Cz → Mz → Prop) : Prop := ∀ (κ : Cz) (μ : Mz) (a1 : Int32), Rel κ μ → ∃ (r : Int32) (κ1 : Cz) (μ1 : Mz), p_ErrataRow_firstRight N x0 a1 κ = some (r, κ1) ∧ p12_firstRight N a1 μ = some (r, μ1) ∧ Rel κ1 μ1
def Sm_unpaid (N x0 : Nat) (Rel : Cz → Mz → Prop) : Prop := ∀ (κ : Cz) (μ : Mz) (a1 : Int32), Rel κ μ → ∃ (r : Int32) (κ1 : Cz) (μ1 : Mz), p_ErrataRow_unpaid N x0 a1 κ = some (r, κ1) ∧ p12_unpaid N a1 μ = some (r, μ1) ∧ Rel κ1 μ1
def Sm_row (N x0 : Nat) (Rel : Cz → Mz → Prop) : Prop := ∀ (κ : Cz) (μ : Mz) (a1 a2 : Int32), Rel κ μ → ∃ (r : Int32) (κ1 : Cz) (μ1 : Mz), p_ErrataRow_row N x0 a1 a2 κ = some (r, κ1) ∧ p12_row N a1 a2 μ = some (r, μ1) ∧ Rel κ1 μ1
def Sm_rings (N x0 : Nat) (Rel : Cz → Mz → Prop) : Prop := ∀ (κ : Cz) (μ : Mz), Rel κ μ → ∃ (r : Int32) (κ1 : Cz) (μ1 : Mz), p_ErrataRow_rings N x0  κ = some (r, κ1) ∧ p12_rings N  μ = some (r, μ1) ∧ Rel κ1 μ1
def Sm_twice (N x0 : Nat) (Rel : Cz → Mz → Prop) : Prop := ∀ (κ : Cz) (μ : Mz) (a1 : Int32), Rel κ μ → ∃ (r : Int32) (κ1 : Cz) (μ1 : Mz), p_ErrataRow_twice N x0 a1 κ = some (r, κ1) ∧ p12_twice N a1 μ = some (r, μ1) ∧ Rel κ1 μ1
def Sm_apart (N x0 : Nat) (Rel : Cz → Mz → Prop) : Prop := ∀ (κ : Cz) (μ : Mz) (a1 a2 a3 : Int32), Rel κ μ → ∃ (r : Int32) (κ1 : Cz) (μ1 : Mz), p_ErrataRow_apart N x0 a1 a2 a3 κ = some (r, κ1) ∧ p12_apart N a1 a2 a3 μ = some (r, μ1) ∧ Rel κ1 μ1
def Sm_one (N x0 : Nat) (Rel : Cz → Mz → Prop) : Prop := ∀ (κ : Cz) (μ : Mz) (a1 a2 : Int32), Rel κ μ → ∃ (r : Int32) (κ1 : Cz) (μ1 : Mz), p_ErrataRow_one N x0 a1 a2 κ = some (r, κ1) ∧ p12_one N a1 a2 μ = some (r, μ1) ∧ Rel κ1 μ1
def Sm_leftOff (N x0 : Nat) (Rel : Cz → Mz → Prop) : Prop := ∀ (κ : Cz) (μ : Mz) (a1 a2 : Int32), Rel κ μ → ∃ (r : Int32) (κ1 : Cz) (μ1 : Mz), p_ErrataRow_leftOff N x0 a1 a2 κ = some (r, κ1) ∧ p12_leftOff N a1 a2 μ = some (r, μ1) ∧ Rel κ1 μ1
def Sm_leastPurse (N x0 : Nat) (Rel : Cz → Mz → Prop) : Prop := ∀ (κ : Cz) (μ : Mz) (a1 : Int32), Rel κ μ → ∃ (r : Int32) (κ1 : Cz) (μ1 : Mz), p_ErrataRow_leastPurse N x0 a1 κ = some (r, κ1) ∧ p12_leastPurse N a1 μ = some (r, μ1) ∧ Rel κ1 μ1
def Sm_putAs (N x0 : Nat) (Rel : Cz → Mz → Prop) : Prop := ∀ (κ : Cz) (μ : Mz) (a1 : Int32), Rel κ μ → ∃ (r : Int32) (κ1 : Cz) (μ1 : Mz), p_ErrataRow_putAs N x0 a1 κ = some (r, κ1) ∧ p12_putAs N a1 μ = some (r, μ1) ∧ Rel κ1 μ1
def Sm_rests (N x0 : Nat) (Rel : Cz → Mz → Prop) : Prop := ∀ (κ : Cz) (μ : Mz) (a1 a2 a3 a4 : Int32), Rel κ μ → ∃ (r : Int32) (κ1 : Cz) (μ1 : Mz), p_ErrataRow_rests N x0 a1 a2 a3 a4 κ = some (r, κ1) ∧ p12_rests N a1 a2 a3 a4 μ = some (r, μ1) ∧ Rel κ1 μ1
def Sm_ring (N x0 : Nat) (Rel : Cz → Mz → Prop) : Prop := ∀ (κ : Cz) (μ : Mz) (a1 : Int32), Rel κ μ → ∃ (r : Int32) (κ1 : Cz) (μ1 : Mz), p_ErrataRow_ring N x0 a1 κ = some (r, κ1) ∧ p12_ring N a1 μ = some (r, μ1) ∧ Rel κ1 μ1
def Sm_pence (N x0 : Nat) (Rel : Cz → Mz → Prop) : Prop := ∀ (κ : Cz) (μ : Mz) (a1 a2 : Int32), Rel κ μ → ∃ (r : Int32) (κ1 : Cz) (μ1 : Mz), p_ErrataRow_pence N x0 a1 a2 κ = some (r, κ1) ∧ p12_pence N a1 a2 μ = some (r, μ1) ∧ Rel κ1 μ1
def Sm_note (N x0 : Nat) (Rel : Cz → Mz → Prop) : Prop := ∀ (κ : Cz) (μ : Mz) (a1 a2 a3 : Int32), Rel κ μ → ∃ (r : Int32) (κ1 : Cz) (μ1 : Mz), p_ErrataRow_note N x0 a1 a2 a3 κ = some (r, κ1) ∧ p12_note N a1 a2 a3 μ = some (r, μ1) ∧ Rel κ1 μ1
def Sm_ruled (N x0 : Nat) (Rel : Cz → Mz → Prop) : Prop := ∀ (κ : Cz) (μ : Mz) (a1 : Int32), Rel κ μ → ∃ (r : Int32) (κ1 : Cz) (μ1 : Mz), p_ErrataRow_ruled N x0 a1 κ = some (r, κ1) ∧ p12_ruled N a1 μ = some (r, μ1) ∧ Rel κ1 μ1
def Sm_look (N x0 : Nat) (Rel : Cz → Mz → Prop) : Prop := ∀ (κ : Cz) (μ : Mz) (a1 a2 : Int32), Rel κ μ → ∃ (r : Int32) (κ1 : Cz) (μ1 : Mz), p_ErrataRow_look N x0 a1 a2 κ = some (r, κ1) ∧ p12_look N a1 a2 μ = some (r, μ1) ∧ Rel κ1 μ1
def Sm_seed (N x0 : Nat) (Rel : Cz → Mz → Prop) : Prop := ∀ (κ : Cz) (μ : Mz) (a1 : Int32), Rel κ μ → ∃ (r : Int32) (κ1 : Cz) (μ1 : Mz), p_ErrataRow_seed N x0 a1 κ = some (r, κ1) ∧ p12_seed N a1 μ = some (r, μ1) ∧ Rel κ1 μ1
def Sm_slips (N x0 : Nat) (Rel : Cz → Mz → Prop) : Prop := ∀ (κ : Cz) (μ : Mz) (a1 a2 a3 a4 : Int32), Rel κ μ → ∃ (r : Int32) (κ1 : Cz) (μ1 : Mz), p_ErrataRow_slips N x0 a1 a2 a3 a4 κ = some (r, κ1) ∧ p12_slips N a1 a2 a3 a4 μ = some (r, μ1) ∧ Rel κ1 μ1
def Sm_count (N x0 : Nat) (Rel : Cz → Mz → Prop) : Prop := ∀ (κ : Cz) (μ : Mz) (a1 : Int32), Rel κ μ → ∃ (r : Int32) (κ1 : Cz) (μ1 : Mz), p_ErrataRow_count N x0 a1 κ = some (r, κ1) ∧ p12_count N a1 μ = some (r, μ1) ∧ Rel κ1 μ1
def Sm_image (N x0 : Nat) (Rel : Cz → Mz → Prop) : Prop := ∀ (κ : Cz) (μ : Mz) (a1 : Int32), Rel κ μ → ∃ (r : Int32) (μ1 : Mz), p12_image N a1 μ = some (r, μ1) ∧ w_ErrataRow_image N x0 a1 κ (fun r1 κ1 => r1 = r ∧ Rel κ1 μ1)
def Sm_back (N x0 : Nat) (Rel : Cz → Mz → Prop) : Prop := ∀ (κ : Cz) (μ : Mz) (a1 : Int32), Rel κ μ → ∃ (r : Int32) (κ1 : Cz) (μ1 : Mz), p_ErrataRow_back N x0 a1 κ = some (r, κ1) ∧ p12_back N a1 μ = some (r, μ1) ∧ Rel κ1 μ1
set_option maxHeartbeats 1000000 in
set_option maxRecDepth 100000 in
theorem law_feed {p : Program} {l : Launch} {e : Env} {s : State} {m : MethodId} {b L : Nat} {xs : Nat → Int32} {below : List Frame} {meth : Method} {c : Code} {D : va_G} {θ : Tc} {η : Th} {ad : Ad} {A : Nat → Prop} {ce sl : Nat} {κ : Cz} {μ : Mz} (K : KL p s m b c D θ η A) (hN : NX s) (hSC : SC ad A s s.heap) (hX : va_X b L xs s s.heap) (hbl : b < s.heap.size) (hbA : ¬ A b) (N x0 : Nat) (Rel : Cz → Mz → Prop) (hK0 : ∀ κ μ, Rel κ μ → isK κ x0 11 = true) (S : Sm_feed N x0 Rel) (hR : Rel κ μ) {x3 : Int32} {t : Nat} (hx3 : x3 = nI t) (ht : t + 6 ≤ L) (hL : L ≤ 3072) (hce : ce + 17 ≤ 600000) (hsl : sl + 1608 ≤ 7302250) (kk : ∀ (κ1 : Cz) (μ1 : Mz), Rel κ1 μ1 → JL p l e s m b below meth c D θ η A (ce + 17) (sl + 1608) κ1 μ1 [(0, .ref b), (1, .ref x0), (2, .ref η.1), (3, .int x3)] [] 1210) : JL p l e s m b below meth c D θ η A ce sl κ μ [(0, .ref b), (1, .ref x0), (2, .ref η.1), (3, .int x3)] [] 192 := by
  obtain ⟨r, κ1, μ1, e1, e2, hR1⟩ := S κ μ (xs (x3 + 1).toNatClampNeg) (xs (x3 + 2).toNatClampNeg) (xs (x3 + 3).toNatClampNeg) (xs (x3 + 4).toNatClampNeg) (xs (x3 + 5).toNatClampNeg) hR
  refine j_aload_n K 1 dL_192 rfl rfl ?_
  refine j_aload_n K 0 dL_193 rfl rfl ?_
  refine j_iload_n K 3 dL_194 rfl rfl ?_
  refine j_iconst (v := 1) K dL_195 (by decide) ?_
  refine j_iadd K dL_196 ?_
  refine l_sld K hX hbl hbA (l_in1 hx3 ht hL) dL_197 ?_
  refine j_aload_n K 0 dL_198 rfl rfl ?_
  refine j_iload_n K 3 dL_199 rfl rfl ?_
  refine j_iconst (v := 2) K dL_200 (by decide) ?_
  refine j_iadd K dL_201 ?_
  refine l_sld K hX hbl hbA (l_in2 hx3 ht hL) dL_202 ?_
  refine j_aload_n K 0 dL_203 rfl rfl ?_
  refine j_iload_n K 3 dL_204 rfl rfl ?_
  refine j_iconst (v := 3) K dL_205 (by decide) ?_
  refine j_iadd K dL_206 ?_
  refine l_sld K hX hbl hbA (l_in3 hx3 ht hL) dL_207 ?_
  refine j_aload_n K 0 dL_208 rfl rfl ?_
  refine j_iload_n K 3 dL_209 rfl rfl ?_
  refine j_iconst (v := 4) K dL_210 (by decide) ?_
  refine j_iadd K dL_211 ?_
  refine l_sld K hX hbl hbA (l_in4 hx3 ht hL) dL_212 ?_
  refine j_aload_n K 0 dL_213 rfl rfl ?_
  refine j_iload_n K 3 dL_214 rfl rfl ?_
  refine j_iconst (v := 5) K dL_215 (by decide) ?_
  refine j_iadd K dL_216 ?_
  refine l_sld K hX hbl hbA (l_in5 hx3 ht hL) dL_217 ?_
  refine lcallF K hN hSC (c_ErrataRow_feed_ok l D θ N x0 (xs (x3 + 1).toNatClampNeg) (xs (x3 + 2).toNatClampNeg) (xs (x3 + 3).toNatClampNeg) (xs (x3 + 4).toNatClampNeg) (xs (x3 + 5).toNatClampNeg) κ _ e1) lG_13 eh_ErrataRow_feed (by decide) (by decide) rfl (hK0 κ μ hR) rfl (st := []) (Nat.le_of_ble_eq_true rfl) rfl dL_218 ⟨by simp only [room_1]; omega, by simp only [room_1]; omega⟩ ?_
  refine j_aload_n K 2 dL_221 rfl rfl ?_
  refine j_aload_n K 0 dL_222 rfl rfl ?_
  refine j_iload_n K 3 dL_223 rfl rfl ?_
  refine j_iconst (v := 1) K dL_224 (by decide) ?_
  refine j_iadd K dL_225 ?_
  refine l_sld K hX hbl hbA (l_in1 hx3 ht hL) dL_226 ?_
  refine j_aload_n K 0 dL_227 rfl rfl ?_
  refine j_iload_n K 3 dL_228 rfl rfl ?_
  refine j_iconst (v := 2) K dL_229 (by decide) ?_
  refine j_iadd K dL_230 ?_
  refine l_sld K hX hbl hbA (l_in2 hx3 ht hL) dL_231 ?_
  refine j_aload_n K 0 dL_232 rfl rfl ?_
  refine j_iload_n K 3 dL_233 rfl rfl ?_
  refine j_iconst (v := 3) K dL_234 (by decide) ?_
  refine j_iadd K dL_235 ?_
  refine l_sld K hX hbl hbA (l_in3 hx3 ht hL) dL_236 ?_
  refine j_aload_n K 0 dL_237 rfl rfl ?_
  refine j_iload_n K 3 dL_238 rfl rfl ?_
  refine j_iconst (v := 4) K dL_239 (by decide) ?_
  refine j_iadd K dL_240 ?_
  refine l_sld K hX hbl hbA (l_in4 hx3 ht hL) dL_241 ?_
  refine j_aload_n K 0 dL_242 rfl rfl ?_
  refine j_iload_n K 3 dL_243 rfl rfl ?_
  refine j_iconst (v := 5) K dL_244 (by decide) ?_
  refine j_iadd K dL_245 ?_
  refine l_sld K hX hbl hbA (l_in5 hx3 ht hL) dL_246 ?_
  refine lcallM K (c12_feed_ok l D η N (xs (x3 + 1).toNatClampNeg) (xs (x3 + 2).toNatClampNeg) (xs (x3 + 3).toNatClampNeg) (xs (x3 + 4).toNatClampNeg) (xs (x3 + 5).toNatClampNeg) μ _ e2) lG_17 lh_feed (by decide) (by decide) rfl rfl (st := [.int r]) (Nat.le_of_ble_eq_true rfl) rfl dL_247 ⟨by simp only [room_1]; omega, by simp only [room_1]; omega⟩ ?_
  refine j_icmp_eq (tgt := 1210) K dL_250 (by decide) (fun q => ?_) (fun q => absurd rfl q)
  exact l_widen (by omega) (by omega) (kk κ1 μ1 hR1)
set_option maxHeartbeats 1000000 in
set_option maxRecDepth 100000 in
theorem law_end {p : Program} {l : Launch} {e : Env} {s : State} {m : MethodId} {b L : Nat} {xs : Nat → Int32} {below : List Frame} {meth : Method} {c : Code} {D : va_G} {θ : Tc} {η : Th} {ad : Ad} {A : Nat → Prop} {ce sl : Nat} {κ : Cz} {μ : Mz} (K : KL p s m b c D θ η A) (hN : NX s) (hSC : SC ad A s s.heap) (hX : va_X b L xs s s.heap) (hbl : b < s.heap.size) (hbA : ¬ A b) (N x0 : Nat) (Rel : Cz → Mz → Prop) (hK0 : ∀ κ μ, Rel κ μ → isK κ x0 11 = true) (S : Sm_end N x0 Rel) (hR : Rel κ μ) {x3 : Int32} {t : Nat} (hx3 : x3 = nI t) (ht : t + 6 ≤ L) (hL : L ≤ 3072) (hce : ce + 17 ≤ 600000) (hsl : sl + 1608 ≤ 7302250) (kk : ∀ (κ1 : Cz) (μ1 : Mz), Rel κ1 μ1 → JL p l e s m b below meth c D θ η A (ce + 17) (sl + 1608) κ1 μ1 [(0, .ref b), (1, .ref x0), (2, .ref η.1), (3, .int x3)] [] 1210) : JL p l e s m b below meth c D θ η A ce sl κ μ [(0, .ref b), (1, .ref x0), (2, .ref η.1), (3, .int x3)] [] 255 := by
  obtain ⟨r, κ1, μ1, e1, e2, hR1⟩ := S κ μ (xs (x3 + 1).toNatClampNeg) hR
  refine j_aload_n K 1 dL_255 rfl rfl ?_
  refine j_aload_n K 0 dL_256 rfl rfl ?_
  refine j_iload_n K 3 dL_257 rfl rfl ?_
  refine j_iconst (v := 1) K dL_258 (by decide) ?_
  refine j_iadd K dL_259 ?_
  refine l_sld K hX hbl hbA (l_in1 hx3 ht hL) dL_260 ?_
  refine lcallF K hN hSC (c_ErrataRow_end_ok l D θ N x0 (xs (x3 + 1).toNatClampNeg) κ _ e1) lG_18 eh_ErrataRow_end (by decide) (by decide) rfl (hK0 κ μ hR) rfl (st := []) (Nat.le_of_ble_eq_true rfl) rfl dL_261 ⟨by simp only [room_1]; omega, by simp only [room_1]; omega⟩ ?_
  refine j_aload_n K 2 dL_264 rfl rfl ?_
  refine j_aload_n K 0 dL_265 rfl rfl ?_
  refine j_iload_n K 3 dL_266 rfl rfl ?_
  refine j_iconst (v := 1) K dL_267 (by decide) ?_
  refine j_iadd K dL_268 ?_
  refine l_sld K hX hbl hbA (l_in1 hx3 ht hL) dL_269 ?_
  refine lcallM K (c12_end_ok l D η N (xs (x3 + 1).toNatClampNeg) μ _ e2) lG_22 lh_end (by decide) (by decide) rfl rfl (st := [.int r]) (Nat.le_of_ble_eq_true rfl) rfl dL_270 ⟨by simp only [room_1]; omega, by simp only [room_1]; omega⟩ ?_
  refine j_icmp_eq (tgt := 1210) K dL_273 (by decide) (fun q => ?_) (fun q => absurd rfl q)
  exact l_widen (by omega) (by omega) (kk κ1 μ1 hR1)
set_option maxHeartbeats 1000000 in
set_option maxRecDepth 100000 in
theorem law_book {p : Program} {l : Launch} {e : Env} {s : State} {m : MethodId} {b L : Nat} {xs : Nat → Int32} {below : List Frame} {meth : Method} {c : Code} {D : va_G} {θ : Tc} {η : Th} {ad : Ad} {A : Nat → Prop} {ce sl : Nat} {κ : Cz} {μ : Mz} (K : KL p s m b c D θ η A) (hN : NX s) (hSC : SC ad A s s.heap) (hX : va_X b L xs s s.heap) (hbl : b < s.heap.size) (hbA : ¬ A b) (N x0 : Nat) (Rel : Cz → Mz → Prop) (hK0 : ∀ κ μ, Rel κ μ → isK κ x0 11 = true) (S : Sm_book N x0 Rel) (hR : Rel κ μ) {x3 : Int32} {t : Nat} (hx3 : x3 = nI t) (ht : t + 6 ≤ L) (hL : L ≤ 3072) (hce : ce + 17 ≤ 600000) (hsl : sl + 1608 ≤ 7302250) (kk : ∀ (κ1 : Cz) (μ1 : Mz), Rel κ1 μ1 → JL p l e s m b below meth c D θ η A (ce + 17) (sl + 1608) κ1 μ1 [(0, .ref b), (1, .ref x0), (2, .ref η.1), (3, .int x3)] [] 1210) : JL p l e s m b below meth c D θ η A ce sl κ μ [(0, .ref b), (1, .ref x0), (2, .ref η.1), (3, .int x3)] [] 278 := by
  obtain ⟨r, κ1, μ1, e1, e2, hR1⟩ := S κ μ  hR
  refine j_aload_n K 1 dL_278 rfl rfl ?_
  refine lcallS K hN hSC (c_ErrataRow_book_ok l D θ ad N x0  κ _ e1) lG_23 eh_ErrataRow_book (by decide) (by decide) rfl (hK0 κ μ hR) rfl (st := []) (Nat.le_of_ble_eq_true rfl) rfl dL_279 ⟨by simp only [room_1]; omega, by simp only [room_1]; omega⟩ ?_
  refine j_aload_n K 2 dL_282 rfl rfl ?_
  refine lcallM K (c12_book_ok l D η N  μ _ e2) lG_27 lh_book (by decide) (by decide) rfl rfl (st := [.int r]) (Nat.le_of_ble_eq_true rfl) rfl dL_283 ⟨by simp only [room_1]; omega, by simp only [room_1]; omega⟩ ?_
  refine j_icmp_eq (tgt := 1210) K dL_286 (by decide) (fun q => ?_) (fun q => absurd rfl q)
  exact l_widen (by omega) (by omega) (kk κ1 μ1 hR1)
set_option maxHeartbeats 1000000 in
set_option maxRecDepth 100000 in
theorem law_rule {p : Program} {l : Launch} {e : Env} {s : State} {m : MethodId} {b L : Nat} {xs : Nat → Int32} {below : List Frame} {meth : Method} {c : Code} {D : va_G} {θ : Tc} {η : Th} {ad : Ad} {A : Nat → Prop} {ce sl : Nat} {κ : Cz} {μ : Mz} (K : KL p s m b c D θ η A) (hN : NX s) (hSC : SC ad A s s.heap) (hX : va_X b L xs s s.heap) (hbl : b < s.heap.size) (hbA : ¬ A b) (N x0 : Nat) (Rel : Cz → Mz → Prop) (hK0 : ∀ κ μ, Rel κ μ → isK κ x0 11 = true) (S : Sm_rule N x0 Rel) (hR : Rel κ μ) {x3 : Int32} {t : Nat} (hx3 : x3 = nI t) (ht : t + 6 ≤ L) (hL : L ≤ 3072) (hce : ce + 17 ≤ 600000) (hsl : sl + 1608 ≤ 7302250) (kk : ∀ (κ1 : Cz) (μ1 : Mz), Rel κ1 μ1 → JL p l e s m b below meth c D θ η A (ce + 17) (sl + 1608) κ1 μ1 [(0, .ref b), (1, .ref x0), (2, .ref η.1), (3, .int x3)] [] 1210) : JL p l e s m b below meth c D θ η A ce sl κ μ [(0, .ref b), (1, .ref x0), (2, .ref η.1), (3, .int x3)] [] 291 := by
  obtain ⟨r, μ1, e2, e1⟩ := S κ μ  hR
  refine j_aload_n K 1 dL_291 rfl rfl ?_
  refine lcallX K hN hSC (c_ErrataRow_rule_wp l D θ ad N x0  κ _ e1) lG_28 eh_ErrataRow_rule (by decide) (by decide) rfl (hK0 κ μ hR) rfl (st := []) (Nat.le_of_ble_eq_true rfl) rfl dL_292 ⟨by simp only [room_1]; omega, by simp only [room_1]; omega⟩ ?_
  intro r1 κ1 hw
  obtain ⟨rfl, hR1⟩ := hw
  refine j_aload_n K 2 dL_295 rfl rfl ?_
  refine lcallM K (c12_rule_ok l D η N  μ _ e2) lG_31 lh_rule (by decide) (by decide) rfl rfl (st := [.int r1]) (Nat.le_of_ble_eq_true rfl) rfl dL_296 ⟨by simp only [room_1]; omega, by simp only [room_1]; omega⟩ ?_
  refine j_icmp_eq (tgt := 1210) K dL_299 (by decide) (fun q => ?_) (fun q => absurd rfl q)
  exact l_widen (by omega) (by omega) (kk κ1 μ1 hR1)
set_option maxHeartbeats 1000000 in
set_option maxRecDepth 100000 in
theorem law_force {p : Program} {l : Launch} {e : Env} {s : State} {m : MethodId} {b L : Nat} {xs : Nat → Int32} {below : List Frame} {meth : Method} {c : Code} {D : va_G} {θ : Tc} {η : Th} {ad : Ad} {A : Nat → Prop} {ce sl : Nat} {κ : Cz} {μ : Mz} (K : KL p s m b c D θ η A) (hN : NX s) (hSC : SC ad A s s.heap) (hX : va_X b L xs s s.heap) (hbl : b < s.heap.size) (hbA : ¬ A b) (N x0 : Nat) (Rel : Cz → Mz → Prop) (hK0 : ∀ κ μ, Rel κ μ → isK κ x0 11 = true) (S : Sm_force N x0 Rel) (hR : Rel κ μ) {x3 : Int32} {t : Nat} (hx3 : x3 = nI t) (ht : t + 6 ≤ L) (hL : L ≤ 3072) (hce : ce + 17 ≤ 600000) (hsl : sl + 1608 ≤ 7302250) (kk : ∀ (κ1 : Cz) (μ1 : Mz), Rel κ1 μ1 → JL p l e s m b below meth c D θ η A (ce + 17) (sl + 1608) κ1 μ1 [(0, .ref b), (1, .ref x0), (2, .ref η.1), (3, .int x3)] [] 1210) : JL p l e s m b below meth c D θ η A ce sl κ μ [(0, .ref b), (1, .ref x0), (2, .ref η.1), (3, .int x3)] [] 304 := by
  obtain ⟨r, κ1, μ1, e1, e2, hR1⟩ := S κ μ (xs (x3 + 1).toNatClampNeg) hR
  refine j_aload_n K 1 dL_304 rfl rfl ?_
  refine j_aload_n K 0 dL_305 rfl rfl ?_
  refine j_iload_n K 3 dL_306 rfl rfl ?_
  refine j_iconst (v := 1) K dL_307 (by decide) ?_
  refine j_iadd K dL_308 ?_
  refine l_sld K hX hbl hbA (l_in1 hx3 ht hL) dL_309 ?_
  refine lcallF K hN hSC (c_ErrataRow_force_ok l D θ N x0 (xs (x3 + 1).toNatClampNeg) κ _ e1) lG_32 eh_ErrataRow_force (by decide) (by decide) rfl (hK0 κ μ hR) rfl (st := []) (Nat.le_of_ble_eq_true rfl) rfl dL_310 ⟨by simp only [room_1]; omega, by simp only [room_1]; omega⟩ ?_
  refine j_aload_n K 2 dL_313 rfl rfl ?_
  refine j_aload_n K 0 dL_314 rfl rfl ?_
  refine j_iload_n K 3 dL_315 rfl rfl ?_
  refine j_iconst (v := 1) K dL_316 (by decide) ?_
  refine j_iadd K dL_317 ?_
  refine l_sld K hX hbl hbA (l_in1 hx3 ht hL) dL_318 ?_
  refine lcallM K (c12_force_ok l D η N (xs (x3 + 1).toNatClampNeg) μ _ e2) lG_35 lh_force (by decide) (by decide) rfl rfl (st := [.int r]) (Nat.le_of_ble_eq_true rfl) rfl dL_319 ⟨by simp only [room_1]; omega, by simp only [room_1]; omega⟩ ?_
  refine j_icmp_eq (tgt := 1210) K dL_322 (by decide) (fun q => ?_) (fun q => absurd rfl q)
  exact l_widen (by omega) (by omega) (kk κ1 μ1 hR1)
set_option maxHeartbeats 1000000 in
set_option maxRecDepth 100000 in
theorem law_letter {p : Program} {l : Launch} {e : Env} {s : State} {m : MethodId} {b L : Nat} {xs : Nat → Int32} {below : List Frame} {meth : Method} {c : Code} {D : va_G} {θ : Tc} {η : Th} {ad : Ad} {A : Nat → Prop} {ce sl : Nat} {κ : Cz} {μ : Mz} (K : KL p s m b c D θ η A) (hN : NX s) (hSC : SC ad A s s.heap) (hX : va_X b L xs s s.heap) (hbl : b < s.heap.size) (hbA : ¬ A b) (N x0 : Nat) (Rel : Cz → Mz → Prop) (hK0 : ∀ κ μ, Rel κ μ → isK κ x0 11 = true) (S : Sm_letter N x0 Rel) (hR : Rel κ μ) {x3 : Int32} {t : Nat} (hx3 : x3 = nI t) (ht : t + 6 ≤ L) (hL : L ≤ 3072) (hce : ce + 17 ≤ 600000) (hsl : sl + 1608 ≤ 7302250) (kk : ∀ (κ1 : Cz) (μ1 : Mz), Rel κ1 μ1 → JL p l e s m b below meth c D θ η A (ce + 17) (sl + 1608) κ1 μ1 [(0, .ref b), (1, .ref x0), (2, .ref η.1), (3, .int x3)] [] 1210) : JL p l e s m b below meth c D θ η A ce sl κ μ [(0, .ref b), (1, .ref x0), (2, .ref η.1), (3, .int x3)] [] 327 := by
  obtain ⟨r, κ1, μ1, e1, e2, hR1⟩ := S κ μ (xs (x3 + 1).toNatClampNeg) (xs (x3 + 2).toNatClampNeg) hR
  refine j_aload_n K 1 dL_327 rfl rfl ?_
  refine j_aload_n K 0 dL_328 rfl rfl ?_
  refine j_iload_n K 3 dL_329 rfl rfl ?_
  refine j_iconst (v := 1) K dL_330 (by decide) ?_
  refine j_iadd K dL_331 ?_
  refine l_sld K hX hbl hbA (l_in1 hx3 ht hL) dL_332 ?_
  refine j_aload_n K 0 dL_333 rfl rfl ?_
  refine j_iload_n K 3 dL_334 rfl rfl ?_
  refine j_iconst (v := 2) K dL_335 (by decide) ?_
  refine j_iadd K dL_336 ?_
  refine l_sld K hX hbl hbA (l_in2 hx3 ht hL) dL_337 ?_
  refine lcallF K hN hSC (c_ErrataRow_letter_ok l D θ N x0 (xs (x3 + 1).toNatClampNeg) (xs (x3 + 2).toNatClampNeg) κ _ e1) lG_36 eh_ErrataRow_letter (by decide) (by decide) rfl (hK0 κ μ hR) rfl (st := []) (Nat.le_of_ble_eq_true rfl) rfl dL_338 ⟨by simp only [room_1]; omega, by simp only [room_1]; omega⟩ ?_
  refine j_aload_n K 2 dL_341 rfl rfl ?_
  refine j_aload_n K 0 dL_342 rfl rfl ?_
  refine j_iload_n K 3 dL_343 rfl rfl ?_
  refine j_iconst (v := 1) K dL_344 (by decide) ?_
  refine j_iadd K dL_345 ?_
  refine l_sld K hX hbl hbA (l_in1 hx3 ht hL) dL_346 ?_
  refine j_aload_n K 0 dL_347 rfl rfl ?_
  refine j_iload_n K 3 dL_348 rfl rfl ?_
  refine j_iconst (v := 2) K dL_349 (by decide) ?_
  refine j_iadd K dL_350 ?_
  refine l_sld K hX hbl hbA (l_in2 hx3 ht hL) dL_351 ?_
  refine lcallM K (c12_letter_ok l D η N (xs (x3 + 1).toNatClampNeg) (xs (x3 + 2).toNatClampNeg) μ _ e2) lG_40 lh_letter (by decide) (by decide) rfl rfl (st := [.int r]) (Nat.le_of_ble_eq_true rfl) rfl dL_352 ⟨by simp only [room_1]; omega, by simp only [room_1]; omega⟩ ?_
  refine j_icmp_eq (tgt := 1210) K dL_355 (by decide) (fun q => ?_) (fun q => absurd rfl q)
  exact l_widen (by omega) (by omega) (kk κ1 μ1 hR1)
set_option maxHeartbeats 1000000 in
set_option maxRecDepth 100000 in
theorem law_habit {p : Program} {l : Launch} {e : Env} {s : State} {m : MethodId} {b L : Nat} {xs : Nat → Int32} {below : List Frame} {meth : Method} {c : Code} {D : va_G} {θ : Tc} {η : Th} {ad : Ad} {A : Nat → Prop} {ce sl : Nat} {κ : Cz} {μ : Mz} (K : KL p s m b c D θ η A) (hN : NX s) (hSC : SC ad A s s.heap) (hX : va_X b L xs s s.heap) (hbl : b < s.heap.size) (hbA : ¬ A b) (N x0 : Nat) (Rel : Cz → Mz → Prop) (hK0 : ∀ κ μ, Rel κ μ → isK κ x0 11 = true) (S : Sm_habit N x0 Rel) (hR : Rel κ μ) {x3 : Int32} {t : Nat} (hx3 : x3 = nI t) (ht : t + 6 ≤ L) (hL : L ≤ 3072) (hce : ce + 17 ≤ 600000) (hsl : sl + 1608 ≤ 7302250) (kk : ∀ (κ1 : Cz) (μ1 : Mz), Rel κ1 μ1 → JL p l e s m b below meth c D θ η A (ce + 17) (sl + 1608) κ1 μ1 [(0, .ref b), (1, .ref x0), (2, .ref η.1), (3, .int x3)] [] 1210) : JL p l e s m b below meth c D θ η A ce sl κ μ [(0, .ref b), (1, .ref x0), (2, .ref η.1), (3, .int x3)] [] 360 := by
  obtain ⟨r, κ1, μ1, e1, e2, hR1⟩ := S κ μ (xs (x3 + 1).toNatClampNeg) (xs (x3 + 2).toNatClampNeg) hR
  refine j_aload_n K 1 dL_360 rfl rfl ?_
  refine j_aload_n K 0 dL_361 rfl rfl ?_
  refine j_iload_n K 3 dL_362 rfl rfl ?_
  refine j_iconst (v := 1) K dL_363 (by decide) ?_
  refine j_iadd K dL_364 ?_
  refine l_sld K hX hbl hbA (l_in1 hx3 ht hL) dL_365 ?_
  refine j_aload_n K 0 dL_366 rfl rfl ?_
  refine j_iload_n K 3 dL_367 rfl rfl ?_
  refine j_iconst (v := 2) K dL_368 (by decide) ?_
  refine j_iadd K dL_369 ?_
  refine l_sld K hX hbl hbA (l_in2 hx3 ht hL) dL_370 ?_
  refine lcallF K hN hSC (c_ErrataRow_habit_ok l D θ N x0 (xs (x3 + 1).toNatClampNeg) (xs (x3 + 2).toNatClampNeg) κ _ e1) lG_41 eh_ErrataRow_habit (by decide) (by decide) rfl (hK0 κ μ hR) rfl (st := []) (Nat.le_of_ble_eq_true rfl) rfl dL_371 ⟨by simp only [room_1]; omega, by simp only [room_1]; omega⟩ ?_
  refine j_aload_n K 2 dL_374 rfl rfl ?_
  refine j_aload_n K 0 dL_375 rfl rfl ?_
  refine j_iload_n K 3 dL_376 rfl rfl ?_
  refine j_iconst (v := 1) K dL_377 (by decide) ?_
  refine j_iadd K dL_378 ?_
  refine l_sld K hX hbl hbA (l_in1 hx3 ht hL) dL_379 ?_
  refine j_aload_n K 0 dL_380 rfl rfl ?_
  refine j_iload_n K 3 dL_381 rfl rfl ?_
  refine j_iconst (v := 2) K dL_382 (by decide) ?_
  refine j_iadd K dL_383 ?_
  refine l_sld K hX hbl hbA (l_in2 hx3 ht hL) dL_384 ?_
  refine lcallM K (c12_habit_ok l D η N (xs (x3 + 1).toNatClampNeg) (xs (x3 + 2).toNatClampNeg) μ _ e2) lG_44 lh_habit (by decide) (by decide) rfl rfl (st := [.int r]) (Nat.le_of_ble_eq_true rfl) rfl dL_385 ⟨by simp only [room_1]; omega, by simp only [room_1]; omega⟩ ?_
  refine j_icmp_eq (tgt := 1210) K dL_388 (by decide) (fun q => ?_) (fun q => absurd rfl q)
  exact l_widen (by omega) (by omega) (kk κ1 μ1 hR1)
set_option maxHeartbeats 1000000 in
set_option maxRecDepth 100000 in
theorem law_edition {p : Program} {l : Launch} {e : Env} {s : State} {m : MethodId} {b L : Nat} {xs : Nat → Int32} {below : List Frame} {meth : Method} {c : Code} {D : va_G} {θ : Tc} {η : Th} {ad : Ad} {A : Nat → Prop} {ce sl : Nat} {κ : Cz} {μ : Mz} (K : KL p s m b c D θ η A) (hN : NX s) (hSC : SC ad A s s.heap) (hX : va_X b L xs s s.heap) (hbl : b < s.heap.size) (hbA : ¬ A b) (N x0 : Nat) (Rel : Cz → Mz → Prop) (hK0 : ∀ κ μ, Rel κ μ → isK κ x0 11 = true) (S : Sm_edition N x0 Rel) (hR : Rel κ μ) {x3 : Int32} {t : Nat} (hx3 : x3 = nI t) (ht : t + 6 ≤ L) (hL : L ≤ 3072) (hce : ce + 17 ≤ 600000) (hsl : sl + 1608 ≤ 7302250) (kk : ∀ (κ1 : Cz) (μ1 : Mz), Rel κ1 μ1 → JL p l e s m b below meth c D θ η A (ce + 17) (sl + 1608) κ1 μ1 [(0, .ref b), (1, .ref x0), (2, .ref η.1), (3, .int x3)] [] 1210) : JL p l e s m b below meth c D θ η A ce sl κ μ [(0, .ref b), (1, .ref x0), (2, .ref η.1), (3, .int x3)] [] 393 := by
  obtain ⟨r, μ1, e2, e1⟩ := S κ μ  hR
  refine j_aload_n K 1 dL_393 rfl rfl ?_
  refine lcallW K hN hSC (c_ErrataRow_edition_wp l D θ N x0  κ _ e1) lG_45 eh_ErrataRow_edition (by decide) (by decide) rfl (hK0 κ μ hR) rfl (st := []) (Nat.le_of_ble_eq_true rfl) rfl dL_394 ⟨by simp only [room_1]; omega, by simp only [room_1]; omega⟩ ?_
  intro r1 κ1 hw
  obtain ⟨rfl, hR1⟩ := hw
  refine j_aload_n K 2 dL_397 rfl rfl ?_
  refine lcallM K (c12_edition_ok l D η N  μ _ e2) lG_48 lh_edition (by decide) (by decide) rfl rfl (st := [.int r1]) (Nat.le_of_ble_eq_true rfl) rfl dL_398 ⟨by simp only [room_1]; omega, by simp only [room_1]; omega⟩ ?_
  refine j_icmp_eq (tgt := 1210) K dL_401 (by decide) (fun q => ?_) (fun q => absurd rfl q)
  exact l_widen (by omega) (by omega) (kk κ1 μ1 hR1)
set_option maxHeartbeats 1000000 in
set_option maxRecDepth 100000 in
theorem law_set {p : Program} {l : Launch} {e : Env} {s : State} {m : MethodId} {b L : Nat} {xs : Nat → Int32} {below : List Frame} {meth : Method} {c : Code} {D : va_G} {θ : Tc} {η : Th} {ad : Ad} {A : Nat → Prop} {ce sl : Nat} {κ : Cz} {μ : Mz} (K : KL p s m b c D θ η A) (hN : NX s) (hSC : SC ad A s s.heap) (hX : va_X b L xs s s.heap) (hbl : b < s.heap.size) (hbA : ¬ A b) (N x0 : Nat) (Rel : Cz → Mz → Prop) (hK0 : ∀ κ μ, Rel κ μ → isK κ x0 11 = true) (S : Sm_set N x0 Rel) (hR : Rel κ μ) {x3 : Int32} {t : Nat} (hx3 : x3 = nI t) (ht : t + 6 ≤ L) (hL : L ≤ 3072) (hce : ce + 17 ≤ 600000) (hsl : sl + 1608 ≤ 7302250) (kk : ∀ (κ1 : Cz) (μ1 : Mz), Rel κ1 μ1 → JL p l e s m b below meth c D θ η A (ce + 17) (sl + 1608) κ1 μ1 [(0, .ref b), (1, .ref x0), (2, .ref η.1), (3, .int x3)] [] 1210) : JL p l e s m b below meth c D θ η A ce sl κ μ [(0, .ref b), (1, .ref x0), (2, .ref η.1), (3, .int x3)] [] 406 := by
  obtain ⟨r, μ1, e2, e1⟩ := S κ μ (xs (x3 + 1).toNatClampNeg) (xs (x3 + 2).toNatClampNeg) hR
  refine j_aload_n K 1 dL_406 rfl rfl ?_
  refine j_aload_n K 0 dL_407 rfl rfl ?_
  refine j_iload_n K 3 dL_408 rfl rfl ?_
  refine j_iconst (v := 1) K dL_409 (by decide) ?_
  refine j_iadd K dL_410 ?_
  refine l_sld K hX hbl hbA (l_in1 hx3 ht hL) dL_411 ?_
  refine j_aload_n K 0 dL_412 rfl rfl ?_
  refine j_iload_n K 3 dL_413 rfl rfl ?_
  refine j_iconst (v := 2) K dL_414 (by decide) ?_
  refine j_iadd K dL_415 ?_
  refine l_sld K hX hbl hbA (l_in2 hx3 ht hL) dL_416 ?_
  refine lcallW K hN hSC (c_ErrataRow_set_wp l D θ N x0 (xs (x3 + 1).toNatClampNeg) (xs (x3 + 2).toNatClampNeg) κ _ e1) lG_49 eh_ErrataRow_set (by decide) (by decide) rfl (hK0 κ μ hR) rfl (st := []) (Nat.le_of_ble_eq_true rfl) rfl dL_417 ⟨by simp only [room_1]; omega, by simp only [room_1]; omega⟩ ?_
  intro r1 κ1 hw
  obtain ⟨rfl, hR1⟩ := hw
  refine j_aload_n K 2 dL_420 rfl rfl ?_
  refine j_aload_n K 0 dL_421 rfl rfl ?_
  refine j_iload_n K 3 dL_422 rfl rfl ?_
  refine j_iconst (v := 1) K dL_423 (by decide) ?_
  refine j_iadd K dL_424 ?_
  refine l_sld K hX hbl hbA (l_in1 hx3 ht hL) dL_425 ?_
  refine j_aload_n K 0 dL_426 rfl rfl ?_
  refine j_iload_n K 3 dL_427 rfl rfl ?_
  refine j_iconst (v := 2) K dL_428 (by decide) ?_
  refine j_iadd K dL_429 ?_
  refine l_sld K hX hbl hbA (l_in2 hx3 ht hL) dL_430 ?_
  refine lcallM K (c12_set_ok l D η N (xs (x3 + 1).toNatClampNeg) (xs (x3 + 2).toNatClampNeg) μ _ e2) lG_52 lh_set (by decide) (by decide) rfl rfl (st := [.int r1]) (Nat.le_of_ble_eq_true rfl) rfl dL_431 ⟨by simp only [room_1]; omega, by simp only [room_1]; omega⟩ ?_
  refine j_icmp_eq (tgt := 1210) K dL_434 (by decide) (fun q => ?_) (fun q => absurd rfl q)
  exact l_widen (by omega) (by omega) (kk κ1 μ1 hR1)
set_option maxHeartbeats 1000000 in
set_option maxRecDepth 100000 in
theorem law_mend {p : Program} {l : Launch} {e : Env} {s : State} {m : MethodId} {b L : Nat} {xs : Nat → Int32} {below : List Frame} {meth : Method} {c : Code} {D : va_G} {θ : Tc} {η : Th} {ad : Ad} {A : Nat → Prop} {ce sl : Nat} {κ : Cz} {μ : Mz} (K : KL p s m b c D θ η A) (hN : NX s) (hSC : SC ad A s s.heap) (hX : va_X b L xs s s.heap) (hbl : b < s.heap.size) (hbA : ¬ A b) (N x0 : Nat) (Rel : Cz → Mz → Prop) (hK0 : ∀ κ μ, Rel κ μ → isK κ x0 11 = true) (S : Sm_mend N x0 Rel) (hR : Rel κ μ) {x3 : Int32} {t : Nat} (hx3 : x3 = nI t) (ht : t + 6 ≤ L) (hL : L ≤ 3072) (hce : ce + 17 ≤ 600000) (hsl : sl + 1608 ≤ 7302250) (kk : ∀ (κ1 : Cz) (μ1 : Mz), Rel κ1 μ1 → JL p l e s m b below meth c D θ η A (ce + 17) (sl + 1608) κ1 μ1 [(0, .ref b), (1, .ref x0), (2, .ref η.1), (3, .int x3)] [] 1210) : JL p l e s m b below meth c D θ η A ce sl κ μ [(0, .ref b), (1, .ref x0), (2, .ref η.1), (3, .int x3)] [] 439 := by
  obtain ⟨r, μ1, e2, e1⟩ := S κ μ (xs (x3 + 1).toNatClampNeg) hR
  refine j_aload_n K 1 dL_439 rfl rfl ?_
  refine j_aload_n K 0 dL_440 rfl rfl ?_
  refine j_iload_n K 3 dL_441 rfl rfl ?_
  refine j_iconst (v := 1) K dL_442 (by decide) ?_
  refine j_iadd K dL_443 ?_
  refine l_sld K hX hbl hbA (l_in1 hx3 ht hL) dL_444 ?_
  refine lcallW K hN hSC (c_ErrataRow_mend_wp l D θ N x0 (xs (x3 + 1).toNatClampNeg) κ _ e1) lG_53 eh_ErrataRow_mend (by decide) (by decide) rfl (hK0 κ μ hR) rfl (st := []) (Nat.le_of_ble_eq_true rfl) rfl dL_445 ⟨by simp only [room_1]; omega, by simp only [room_1]; omega⟩ ?_
  intro r1 κ1 hw
  obtain ⟨rfl, hR1⟩ := hw
  refine j_aload_n K 2 dL_448 rfl rfl ?_
  refine j_aload_n K 0 dL_449 rfl rfl ?_
  refine j_iload_n K 3 dL_450 rfl rfl ?_
  refine j_iconst (v := 1) K dL_451 (by decide) ?_
  refine j_iadd K dL_452 ?_
  refine l_sld K hX hbl hbA (l_in1 hx3 ht hL) dL_453 ?_
  refine lcallM K (c12_mend_ok l D η N (xs (x3 + 1).toNatClampNeg) μ _ e2) lG_56 lh_mend (by decide) (by decide) rfl rfl (st := [.int r1]) (Nat.le_of_ble_eq_true rfl) rfl dL_454 ⟨by simp only [room_1]; omega, by simp only [room_1]; omega⟩ ?_
  refine j_icmp_eq (tgt := 1210) K dL_457 (by decide) (fun q => ?_) (fun q => absurd rfl q)
  exact l_widen (by omega) (by omega) (kk κ1 μ1 hR1)
set_option maxHeartbeats 1000000 in
set_option maxRecDepth 100000 in
theorem law_hang {p : Program} {l : Launch} {e : Env} {s : State} {m : MethodId} {b L : Nat} {xs : Nat → Int32} {below : List Frame} {meth : Method} {c : Code} {D : va_G} {θ : Tc} {η : Th} {ad : Ad} {A : Nat → Prop} {ce sl : Nat} {κ : Cz} {μ : Mz} (K : KL p s m b c D θ η A) (hN : NX s) (hSC : SC ad A s s.heap) (hX : va_X b L xs s s.heap) (hbl : b < s.heap.size) (hbA : ¬ A b) (N x0 : Nat) (Rel : Cz → Mz → Prop) (hK0 : ∀ κ μ, Rel κ μ → isK κ x0 11 = true) (S : Sm_hang N x0 Rel) (hR : Rel κ μ) {x3 : Int32} {t : Nat} (hx3 : x3 = nI t) (ht : t + 6 ≤ L) (hL : L ≤ 3072) (hce : ce + 17 ≤ 600000) (hsl : sl + 1608 ≤ 7302250) (kk : ∀ (κ1 : Cz) (μ1 : Mz), Rel κ1 μ1 → JL p l e s m b below meth c D θ η A (ce + 17) (sl + 1608) κ1 μ1 [(0, .ref b), (1, .ref x0), (2, .ref η.1), (3, .int x3)] [] 1210) : JL p l e s m b below meth c D θ η A ce sl κ μ [(0, .ref b), (1, .ref x0), (2, .ref η.1), (3, .int x3)] [] 462 := by
  obtain ⟨r, μ1, e2, e1⟩ := S κ μ (xs (x3 + 1).toNatClampNeg) (xs (x3 + 2).toNatClampNeg) hR
  refine j_aload_n K 1 dL_462 rfl rfl ?_
  refine j_aload_n K 0 dL_463 rfl rfl ?_
  refine j_iload_n K 3 dL_464 rfl rfl ?_
  refine j_iconst (v := 1) K dL_465 (by decide) ?_
  refine j_iadd K dL_466 ?_
  refine l_sld K hX hbl hbA (l_in1 hx3 ht hL) dL_467 ?_
  refine j_aload_n K 0 dL_468 rfl rfl ?_
  refine j_iload_n K 3 dL_469 rfl rfl ?_
  refine j_iconst (v := 2) K dL_470 (by decide) ?_
  refine j_iadd K dL_471 ?_
  refine l_sld K hX hbl hbA (l_in2 hx3 ht hL) dL_472 ?_
  refine lcallW K hN hSC (c_ErrataRow_hang_wp l D θ N x0 (xs (x3 + 1).toNatClampNeg) (xs (x3 + 2).toNatClampNeg) κ _ e1) lG_57 eh_ErrataRow_hang (by decide) (by decide) rfl (hK0 κ μ hR) rfl (st := []) (Nat.le_of_ble_eq_true rfl) rfl dL_473 ⟨by simp only [room_1]; omega, by simp only [room_1]; omega⟩ ?_
  intro r1 κ1 hw
  obtain ⟨rfl, hR1⟩ := hw
  refine j_aload_n K 2 dL_476 rfl rfl ?_
  refine j_aload_n K 0 dL_477 rfl rfl ?_
  refine j_iload_n K 3 dL_478 rfl rfl ?_
  refine j_iconst (v := 1) K dL_479 (by decide) ?_
  refine j_iadd K dL_480 ?_
  refine l_sld K hX hbl hbA (l_in1 hx3 ht hL) dL_481 ?_
  refine j_aload_n K 0 dL_482 rfl rfl ?_
  refine j_iload_n K 3 dL_483 rfl rfl ?_
  refine j_iconst (v := 2) K dL_484 (by decide) ?_
  refine j_iadd K dL_485 ?_
  refine l_sld K hX hbl hbA (l_in2 hx3 ht hL) dL_486 ?_
  refine lcallM K (c12_hang_ok l D η N (xs (x3 + 1).toNatClampNeg) (xs (x3 + 2).toNatClampNeg) μ _ e2) lG_60 lh_hang (by decide) (by decide) rfl rfl (st := [.int r1]) (Nat.le_of_ble_eq_true rfl) rfl dL_487 ⟨by simp only [room_1]; omega, by simp only [room_1]; omega⟩ ?_
  refine j_icmp_eq (tgt := 1210) K dL_490 (by decide) (fun q => ?_) (fun q => absurd rfl q)
  exact l_widen (by omega) (by omega) (kk κ1 μ1 hR1)
set_option maxHeartbeats 1000000 in
set_option maxRecDepth 100000 in
theorem law_fill {p : Program} {l : Launch} {e : Env} {s : State} {m : MethodId} {b L : Nat} {xs : Nat → Int32} {below : List Frame} {meth : Method} {c : Code} {D : va_G} {θ : Tc} {η : Th} {ad : Ad} {A : Nat → Prop} {ce sl : Nat} {κ : Cz} {μ : Mz} (K : KL p s m b c D θ η A) (hN : NX s) (hSC : SC ad A s s.heap) (hX : va_X b L xs s s.heap) (hbl : b < s.heap.size) (hbA : ¬ A b) (N x0 : Nat) (Rel : Cz → Mz → Prop) (hK0 : ∀ κ μ, Rel κ μ → isK κ x0 11 = true) (S : Sm_fill N x0 Rel) (hR : Rel κ μ) {x3 : Int32} {t : Nat} (hx3 : x3 = nI t) (ht : t + 6 ≤ L) (hL : L ≤ 3072) (hce : ce + 17 ≤ 600000) (hsl : sl + 1608 ≤ 7302250) (kk : ∀ (κ1 : Cz) (μ1 : Mz), Rel κ1 μ1 → JL p l e s m b below meth c D θ η A (ce + 17) (sl + 1608) κ1 μ1 [(0, .ref b), (1, .ref x0), (2, .ref η.1), (3, .int x3)] [] 1210) : JL p l e s m b below meth c D θ η A ce sl κ μ [(0, .ref b), (1, .ref x0), (2, .ref η.1), (3, .int x3)] [] 495 := by
  obtain ⟨r, μ1, e2, e1⟩ := S κ μ (xs (x3 + 1).toNatClampNeg) hR
  refine j_aload_n K 1 dL_495 rfl rfl ?_
  refine j_aload_n K 0 dL_496 rfl rfl ?_
  refine j_iload_n K 3 dL_497 rfl rfl ?_
  refine j_iconst (v := 1) K dL_498 (by decide) ?_
  refine j_iadd K dL_499 ?_
  refine l_sld K hX hbl hbA (l_in1 hx3 ht hL) dL_500 ?_
  refine lcallW K hN hSC (c_ErrataRow_fill_wp l D θ N x0 (xs (x3 + 1).toNatClampNeg) κ _ e1) lG_61 eh_ErrataRow_fill (by decide) (by decide) rfl (hK0 κ μ hR) rfl (st := []) (Nat.le_of_ble_eq_true rfl) rfl dL_501 ⟨by simp only [room_1]; omega, by simp only [room_1]; omega⟩ ?_
  intro r1 κ1 hw
  obtain ⟨rfl, hR1⟩ := hw
  refine j_aload_n K 2 dL_504 rfl rfl ?_
  refine j_aload_n K 0 dL_505 rfl rfl ?_
  refine j_iload_n K 3 dL_506 rfl rfl ?_
  refine j_iconst (v := 1) K dL_507 (by decide) ?_
  refine j_iadd K dL_508 ?_
  refine l_sld K hX hbl hbA (l_in1 hx3 ht hL) dL_509 ?_
  refine lcallM K (c12_fill_ok l D η N (xs (x3 + 1).toNatClampNeg) μ _ e2) lG_64 lh_fill (by decide) (by decide) rfl rfl (st := [.int r1]) (Nat.le_of_ble_eq_true rfl) rfl dL_510 ⟨by simp only [room_1]; omega, by simp only [room_1]; omega⟩ ?_
  refine j_icmp_eq (tgt := 1210) K dL_513 (by decide) (fun q => ?_) (fun q => absurd rfl q)
  exact l_widen (by omega) (by omega) (kk κ1 μ1 hR1)
set_option maxHeartbeats 1000000 in
set_option maxRecDepth 100000 in
theorem law_undo {p : Program} {l : Launch} {e : Env} {s : State} {m : MethodId} {b L : Nat} {xs : Nat → Int32} {below : List Frame} {meth : Method} {c : Code} {D : va_G} {θ : Tc} {η : Th} {ad : Ad} {A : Nat → Prop} {ce sl : Nat} {κ : Cz} {μ : Mz} (K : KL p s m b c D θ η A) (hN : NX s) (hSC : SC ad A s s.heap) (hX : va_X b L xs s s.heap) (hbl : b < s.heap.size) (hbA : ¬ A b) (N x0 : Nat) (Rel : Cz → Mz → Prop) (hK0 : ∀ κ μ, Rel κ μ → isK κ x0 11 = true) (S : Sm_undo N x0 Rel) (hR : Rel κ μ) {x3 : Int32} {t : Nat} (hx3 : x3 = nI t) (ht : t + 6 ≤ L) (hL : L ≤ 3072) (hce : ce + 17 ≤ 600000) (hsl : sl + 1608 ≤ 7302250) (kk : ∀ (κ1 : Cz) (μ1 : Mz), Rel κ1 μ1 → JL p l e s m b below meth c D θ η A (ce + 17) (sl + 1608) κ1 μ1 [(0, .ref b), (1, .ref x0), (2, .ref η.1), (3, .int x3)] [] 1210) : JL p l e s m b below meth c D θ η A ce sl κ μ [(0, .ref b), (1, .ref x0), (2, .ref η.1), (3, .int x3)] [] 518 := by
  obtain ⟨r, κ1, μ1, e1, e2, hR1⟩ := S κ μ  hR
  refine j_aload_n K 1 dL_518 rfl rfl ?_
  refine lcallF K hN hSC (c_ErrataRow_undo_ok l D θ N x0  κ _ e1) lG_65 eh_ErrataRow_undo (by decide) (by decide) rfl (hK0 κ μ hR) rfl (st := []) (Nat.le_of_ble_eq_true rfl) rfl dL_519 ⟨by simp only [room_1]; omega, by simp only [room_1]; omega⟩ ?_
  refine j_aload_n K 2 dL_522 rfl rfl ?_
  refine lcallM K (c12_undo_ok l D η N  μ _ e2) lG_68 lh_undo (by decide) (by decide) rfl rfl (st := [.int r]) (Nat.le_of_ble_eq_true rfl) rfl dL_523 ⟨by simp only [room_1]; omega, by simp only [room_1]; omega⟩ ?_
  refine j_icmp_eq (tgt := 1210) K dL_526 (by decide) (fun q => ?_) (fun q => absurd rfl q)
  exact l_widen (by omega) (by omega) (kk κ1 μ1 hR1)
set_option maxHeartbeats 1000000 in
set_option maxRecDepth 100000 in
theorem law_ahead {p : Program} {l : Launch} {e : Env} {s : State} {m : MethodId} {b L : Nat} {xs : Nat → Int32} {below : List Frame} {meth : Method} {c : Code} {D : va_G} {θ : Tc} {η : Th} {ad : Ad} {A : Nat → Prop} {ce sl : Nat} {κ : Cz} {μ : Mz} (K : KL p s m b c D θ η A) (hN : NX s) (hSC : SC ad A s s.heap) (hX : va_X b L xs s s.heap) (hbl : b < s.heap.size) (hbA : ¬ A b) (N x0 : Nat) (Rel : Cz → Mz → Prop) (hK0 : ∀ κ μ, Rel κ μ → isK κ x0 11 = true) (S : Sm_ahead N x0 Rel) (hR : Rel κ μ) {x3 : Int32} {t : Nat} (hx3 : x3 = nI t) (ht : t + 6 ≤ L) (hL : L ≤ 3072) (hce : ce + 17 ≤ 600000) (hsl : sl + 1608 ≤ 7302250) (kk : ∀ (κ1 : Cz) (μ1 : Mz), Rel κ1 μ1 → JL p l e s m b below meth c D θ η A (ce + 17) (sl + 1608) κ1 μ1 [(0, .ref b), (1, .ref x0), (2, .ref η.1), (3, .int x3)] [] 1210) : JL p l e s m b below meth c D θ η A ce sl κ μ [(0, .ref b), (1, .ref x0), (2, .ref η.1), (3, .int x3)] [] 531 := by
  obtain ⟨r, κ1, μ1, e1, e2, hR1⟩ := S κ μ (xs (x3 + 1).toNatClampNeg) (xs (x3 + 2).toNatClampNeg) (xs (x3 + 3).toNatClampNeg) hR
  refine j_aload_n K 1 dL_531 rfl rfl ?_
  refine j_aload_n K 0 dL_532 rfl rfl ?_
  refine j_iload_n K 3 dL_533 rfl rfl ?_
  refine j_iconst (v := 1) K dL_534 (by decide) ?_
  refine j_iadd K dL_535 ?_
  refine l_sld K hX hbl hbA (l_in1 hx3 ht hL) dL_536 ?_
  refine j_aload_n K 0 dL_537 rfl rfl ?_
  refine j_iload_n K 3 dL_538 rfl rfl ?_
  refine j_iconst (v := 2) K dL_539 (by decide) ?_
  refine j_iadd K dL_540 ?_
  refine l_sld K hX hbl hbA (l_in2 hx3 ht hL) dL_541 ?_
  refine j_aload_n K 0 dL_542 rfl rfl ?_
  refine j_iload_n K 3 dL_543 rfl rfl ?_
  refine j_iconst (v := 3) K dL_544 (by decide) ?_
  refine j_iadd K dL_545 ?_
  refine l_sld K hX hbl hbA (l_in3 hx3 ht hL) dL_546 ?_
  refine lcallF K hN hSC (c_ErrataRow_ahead_ok l D θ N x0 (xs (x3 + 1).toNatClampNeg) (xs (x3 + 2).toNatClampNeg) (xs (x3 + 3).toNatClampNeg) κ _ e1) lG_69 eh_ErrataRow_ahead (by decide) (by decide) rfl (hK0 κ μ hR) rfl (st := []) (Nat.le_of_ble_eq_true rfl) rfl dL_547 ⟨by simp only [room_1]; omega, by simp only [room_1]; omega⟩ ?_
  refine j_aload_n K 2 dL_550 rfl rfl ?_
  refine j_aload_n K 0 dL_551 rfl rfl ?_
  refine j_iload_n K 3 dL_552 rfl rfl ?_
  refine j_iconst (v := 1) K dL_553 (by decide) ?_
  refine j_iadd K dL_554 ?_
  refine l_sld K hX hbl hbA (l_in1 hx3 ht hL) dL_555 ?_
  refine j_aload_n K 0 dL_556 rfl rfl ?_
  refine j_iload_n K 3 dL_557 rfl rfl ?_
  refine j_iconst (v := 2) K dL_558 (by decide) ?_
  refine j_iadd K dL_559 ?_
  refine l_sld K hX hbl hbA (l_in2 hx3 ht hL) dL_560 ?_
  refine j_aload_n K 0 dL_561 rfl rfl ?_
  refine j_iload_n K 3 dL_562 rfl rfl ?_
  refine j_iconst (v := 3) K dL_563 (by decide) ?_
  refine j_iadd K dL_564 ?_
  refine l_sld K hX hbl hbA (l_in3 hx3 ht hL) dL_565 ?_
  refine lcallM K (c12_ahead_ok l D η N (xs (x3 + 1).toNatClampNeg) (xs (x3 + 2).toNatClampNeg) (xs (x3 + 3).toNatClampNeg) μ _ e2) lG_73 lh_ahead (by decide) (by decide) rfl rfl (st := [.int r]) (Nat.le_of_ble_eq_true rfl) rfl dL_566 ⟨by simp only [room_1]; omega, by simp only [room_1]; omega⟩ ?_
  refine j_icmp_eq (tgt := 1210) K dL_569 (by decide) (fun q => ?_) (fun q => absurd rfl q)
  exact l_widen (by omega) (by omega) (kk κ1 μ1 hR1)
set_option maxHeartbeats 1000000 in
set_option maxRecDepth 100000 in
theorem law_allRight {p : Program} {l : Launch} {e : Env} {s : State} {m : MethodId} {b L : Nat} {xs : Nat → Int32} {below : List Frame} {meth : Method} {c : Code} {D : va_G} {θ : Tc} {η : Th} {ad : Ad} {A : Nat → Prop} {ce sl : Nat} {κ : Cz} {μ : Mz} (K : KL p s m b c D θ η A) (hN : NX s) (hSC : SC ad A s s.heap) (hX : va_X b L xs s s.heap) (hbl : b < s.heap.size) (hbA : ¬ A b) (N x0 : Nat) (Rel : Cz → Mz → Prop) (hK0 : ∀ κ μ, Rel κ μ → isK κ x0 11 = true) (S : Sm_allRight N x0 Rel) (hR : Rel κ μ) {x3 : Int32} {t : Nat} (hx3 : x3 = nI t) (ht : t + 6 ≤ L) (hL : L ≤ 3072) (hce : ce + 17 ≤ 600000) (hsl : sl + 1608 ≤ 7302250) (kk : ∀ (κ1 : Cz) (μ1 : Mz), Rel κ1 μ1 → JL p l e s m b below meth c D θ η A (ce + 17) (sl + 1608) κ1 μ1 [(0, .ref b), (1, .ref x0), (2, .ref η.1), (3, .int x3)] [] 1210) : JL p l e s m b below meth c D θ η A ce sl κ μ [(0, .ref b), (1, .ref x0), (2, .ref η.1), (3, .int x3)] [] 574 := by
  obtain ⟨r, κ1, μ1, e1, e2, hR1⟩ := S κ μ  hR
  refine j_aload_n K 1 dL_574 rfl rfl ?_
  refine lcallF K hN hSC (c_ErrataRow_allRight_ok l D θ N x0  κ _ e1) lG_74 eh_ErrataRow_allRight (by decide) (by decide) rfl (hK0 κ μ hR) rfl (st := []) (Nat.le_of_ble_eq_true rfl) rfl dL_575 ⟨by simp only [room_1]; omega, by simp only [room_1]; omega⟩ ?_
  refine j_aload_n K 2 dL_578 rfl rfl ?_
  refine lcallM K (c12_allRight_ok l D η N  μ _ e2) lG_77 lh_allRight (by decide) (by decide) rfl rfl (st := [.int r]) (Nat.le_of_ble_eq_true rfl) rfl dL_579 ⟨by simp only [room_1]; omega, by simp only [room_1]; omega⟩ ?_
  refine j_icmp_eq (tgt := 1210) K dL_582 (by decide) (fun q => ?_) (fun q => absurd rfl q)
  exact l_widen (by omega) (by omega) (kk κ1 μ1 hR1)
set_option maxHeartbeats 1000000 in
set_option maxRecDepth 100000 in
theorem law_firstRight {p : Program} {l : Launch} {e : Env} {s : State} {m : MethodId} {b L : Nat} {xs : Nat → Int32} {below : List Frame} {meth : Method} {c : Code} {D : va_G} {θ : Tc} {η : Th} {ad : Ad} {A : Nat → Prop} {ce sl : Nat} {κ : Cz} {μ : Mz} (K : KL p s m b c D θ η A) (hN : NX s) (hSC : SC ad A s s.heap) (hX : va_X b L xs s s.heap) (hbl : b < s.heap.size) (hbA : ¬ A b) (N x0 : Nat) (Rel : Cz → Mz → Prop) (hK0 : ∀ κ μ, Rel κ μ → isK κ x0 11 = true) (S : Sm_firstRight N x0 Rel) (hR : Rel κ μ) {x3 : Int32} {t : Nat} (hx3 : x3 = nI t) (ht : t + 6 ≤ L) (hL : L ≤ 3072) (hce : ce + 17 ≤ 600000) (hsl : sl + 1608 ≤ 7302250) (kk : ∀ (κ1 : Cz) (μ1 : Mz), Rel κ1 μ1 → JL p l e s m b below meth c D θ η A (ce + 17) (sl + 1608) κ1 μ1 [(0, .ref b), (1, .ref x0), (2, .ref η.1), (3, .int x3)] [] 1210) : JL p l e s m b below meth c D θ η A ce sl κ μ [(0, .ref b), (1, .ref x0), (2, .ref η.1), (3, .int x3)] [] 587 := by
  obtain ⟨r, κ1, μ1, e1, e2, hR1⟩ := S κ μ (xs (x3 + 1).toNatClampNeg) hR
  refine j_aload_n K 1 dL_587 rfl rfl ?_
  refine j_aload_n K 0 dL_588 rfl rfl ?_
  refine j_iload_n K 3 dL_589 rfl rfl ?_
  refine j_iconst (v := 1) K dL_590 (by decide) ?_
  refine j_iadd K dL_591 ?_
  refine l_sld K hX hbl hbA (l_in1 hx3 ht hL) dL_592 ?_
  refine lcallF K hN hSC (c_ErrataRow_firstRight_ok l D θ N x0 (xs (x3 + 1).toNatClampNeg) κ _ e1) lG_78 eh_ErrataRow_firstRight (by decide) (by decide) rfl (hK0 κ μ hR) rfl (st := []) (Nat.le_of_ble_eq_true rfl) rfl dL_593 ⟨by simp only [room_1]; omega, by simp only [room_1]; omega⟩ ?_
  refine j_aload_n K 2 dL_596 rfl rfl ?_
  refine j_aload_n K 0 dL_597 rfl rfl ?_
  refine j_iload_n K 3 dL_598 rfl rfl ?_
  refine j_iconst (v := 1) K dL_599 (by decide) ?_
  refine j_iadd K dL_600 ?_
  refine l_sld K hX hbl hbA (l_in1 hx3 ht hL) dL_601 ?_
  refine lcallM K (c12_firstRight_ok l D η N (xs (x3 + 1).toNatClampNeg) μ _ e2) lG_81 lh_firstRight (by decide) (by decide) rfl rfl (st := [.int r]) (Nat.le_of_ble_eq_true rfl) rfl dL_602 ⟨by simp only [room_1]; omega, by simp only [room_1]; omega⟩ ?_
  refine j_icmp_eq (tgt := 1210) K dL_605 (by decide) (fun q => ?_) (fun q => absurd rfl q)
  exact l_widen (by omega) (by omega) (kk κ1 μ1 hR1)
set_option maxHeartbeats 1000000 in
set_option maxRecDepth 100000 in
theorem law_unpaid {p : Program} {l : Launch} {e : Env} {s : State} {m : MethodId} {b L : Nat} {xs : Nat → Int32} {below : List Frame} {meth : Method} {c : Code} {D : va_G} {θ : Tc} {η : Th} {ad : Ad} {A : Nat → Prop} {ce sl : Nat} {κ : Cz} {μ : Mz} (K : KL p s m b c D θ η A) (hN : NX s) (hSC : SC ad A s s.heap) (hX : va_X b L xs s s.heap) (hbl : b < s.heap.size) (hbA : ¬ A b) (N x0 : Nat) (Rel : Cz → Mz → Prop) (hK0 : ∀ κ μ, Rel κ μ → isK κ x0 11 = true) (S : Sm_unpaid N x0 Rel) (hR : Rel κ μ) {x3 : Int32} {t : Nat} (hx3 : x3 = nI t) (ht : t + 6 ≤ L) (hL : L ≤ 3072) (hce : ce + 17 ≤ 600000) (hsl : sl + 1608 ≤ 7302250) (kk : ∀ (κ1 : Cz) (μ1 : Mz), Rel κ1 μ1 → JL p l e s m b below meth c D θ η A (ce + 17) (sl + 1608) κ1 μ1 [(0, .ref b), (1, .ref x0), (2, .ref η.1), (3, .int x3)] [] 1210) : JL p l e s m b below meth c D θ η A ce sl κ μ [(0, .ref b), (1, .ref x0), (2, .ref η.1), (3, .int x3)] [] 610 := by
  obtain ⟨r, κ1, μ1, e1, e2, hR1⟩ := S κ μ (xs (x3 + 1).toNatClampNeg) hR
  refine j_aload_n K 1 dL_610 rfl rfl ?_
  refine j_aload_n K 0 dL_611 rfl rfl ?_
  refine j_iload_n K 3 dL_612 rfl rfl ?_
  refine j_iconst (v := 1) K dL_613 (by decide) ?_
  refine j_iadd K dL_614 ?_
  refine l_sld K hX hbl hbA (l_in1 hx3 ht hL) dL_615 ?_
  refine lcallF K hN hSC (c_ErrataRow_unpaid_ok l D θ N x0 (xs (x3 + 1).toNatClampNeg) κ _ e1) lG_82 eh_ErrataRow_unpaid (by decide) (by decide) rfl (hK0 κ μ hR) rfl (st := []) (Nat.le_of_ble_eq_true rfl) rfl dL_616 ⟨by simp only [room_1]; omega, by simp only [room_1]; omega⟩ ?_
  refine j_aload_n K 2 dL_619 rfl rfl ?_
  refine j_aload_n K 0 dL_620 rfl rfl ?_
  refine j_iload_n K 3 dL_621 rfl rfl ?_
  refine j_iconst (v := 1) K dL_622 (by decide) ?_
  refine j_iadd K dL_623 ?_
  refine l_sld K hX hbl hbA (l_in1 hx3 ht hL) dL_624 ?_
  refine lcallM K (c12_unpaid_ok l D η N (xs (x3 + 1).toNatClampNeg) μ _ e2) lG_85 lh_unpaid (by decide) (by decide) rfl rfl (st := [.int r]) (Nat.le_of_ble_eq_true rfl) rfl dL_625 ⟨by simp only [room_1]; omega, by simp only [room_1]; omega⟩ ?_
  refine j_icmp_eq (tgt := 1210) K dL_628 (by decide) (fun q => ?_) (fun q => absurd rfl q)
  exact l_widen (by omega) (by omega) (kk κ1 μ1 hR1)
set_option maxHeartbeats 1000000 in
set_option maxRecDepth 100000 in
theorem law_row {p : Program} {l : Launch} {e : Env} {s : State} {m : MethodId} {b L : Nat} {xs : Nat → Int32} {below : List Frame} {meth : Method} {c : Code} {D : va_G} {θ : Tc} {η : Th} {ad : Ad} {A : Nat → Prop} {ce sl : Nat} {κ : Cz} {μ : Mz} (K : KL p s m b c D θ η A) (hN : NX s) (hSC : SC ad A s s.heap) (hX : va_X b L xs s s.heap) (hbl : b < s.heap.size) (hbA : ¬ A b) (N x0 : Nat) (Rel : Cz → Mz → Prop) (hK0 : ∀ κ μ, Rel κ μ → isK κ x0 11 = true) (S : Sm_row N x0 Rel) (hR : Rel κ μ) {x3 : Int32} {t : Nat} (hx3 : x3 = nI t) (ht : t + 6 ≤ L) (hL : L ≤ 3072) (hce : ce + 17 ≤ 600000) (hsl : sl + 1608 ≤ 7302250) (kk : ∀ (κ1 : Cz) (μ1 : Mz), Rel κ1 μ1 → JL p l e s m b below meth c D θ η A (ce + 17) (sl + 1608) κ1 μ1 [(0, .ref b), (1, .ref x0), (2, .ref η.1), (3, .int x3)] [] 1210) : JL p l e s m b below meth c D θ η A ce sl κ μ [(0, .ref b), (1, .ref x0), (2, .ref η.1), (3, .int x3)] [] 633 := by
  obtain ⟨r, κ1, μ1, e1, e2, hR1⟩ := S κ μ (xs (x3 + 1).toNatClampNeg) (xs (x3 + 2).toNatClampNeg) hR
  refine j_aload_n K 1 dL_633 rfl rfl ?_
  refine j_aload_n K 0 dL_634 rfl rfl ?_
  refine j_iload_n K 3 dL_635 rfl rfl ?_
  refine j_iconst (v := 1) K dL_636 (by decide) ?_
  refine j_iadd K dL_637 ?_
  refine l_sld K hX hbl hbA (l_in1 hx3 ht hL) dL_638 ?_
  refine j_aload_n K 0 dL_639 rfl rfl ?_
  refine j_iload_n K 3 dL_640 rfl rfl ?_
  refine j_iconst (v := 2) K dL_641 (by decide) ?_
  refine j_iadd K dL_642 ?_
  refine l_sld K hX hbl hbA (l_in2 hx3 ht hL) dL_643 ?_
  refine lcallF K hN hSC (c_ErrataRow_row_ok l D θ N x0 (xs (x3 + 1).toNatClampNeg) (xs (x3 + 2).toNatClampNeg) κ _ e1) lG_86 eh_ErrataRow_row (by decide) (by decide) rfl (hK0 κ μ hR) rfl (st := []) (Nat.le_of_ble_eq_true rfl) rfl dL_644 ⟨by simp only [room_1]; omega, by simp only [room_1]; omega⟩ ?_
  refine j_aload_n K 2 dL_647 rfl rfl ?_
  refine j_aload_n K 0 dL_648 rfl rfl ?_
  refine j_iload_n K 3 dL_649 rfl rfl ?_
  refine j_iconst (v := 1) K dL_650 (by decide) ?_
  refine j_iadd K dL_651 ?_
  refine l_sld K hX hbl hbA (l_in1 hx3 ht hL) dL_652 ?_
  refine j_aload_n K 0 dL_653 rfl rfl ?_
  refine j_iload_n K 3 dL_654 rfl rfl ?_
  refine j_iconst (v := 2) K dL_655 (by decide) ?_
  refine j_iadd K dL_656 ?_
  refine l_sld K hX hbl hbA (l_in2 hx3 ht hL) dL_657 ?_
  refine lcallM K (c12_row_ok l D η N (xs (x3 + 1).toNatClampNeg) (xs (x3 + 2).toNatClampNeg) μ _ e2) lG_89 lh_row (by decide) (by decide) rfl rfl (st := [.int r]) (Nat.le_of_ble_eq_true rfl) rfl dL_658 ⟨by simp only [room_1]; omega, by simp only [room_1]; omega⟩ ?_
  refine j_icmp_eq (tgt := 1210) K dL_661 (by decide) (fun q => ?_) (fun q => absurd rfl q)
  exact l_widen (by omega) (by omega) (kk κ1 μ1 hR1)
set_option maxHeartbeats 1000000 in
set_option maxRecDepth 100000 in
theorem law_rings {p : Program} {l : Launch} {e : Env} {s : State} {m : MethodId} {b L : Nat} {xs : Nat → Int32} {below : List Frame} {meth : Method} {c : Code} {D : va_G} {θ : Tc} {η : Th} {ad : Ad} {A : Nat → Prop} {ce sl : Nat} {κ : Cz} {μ : Mz} (K : KL p s m b c D θ η A) (hN : NX s) (hSC : SC ad A s s.heap) (hX : va_X b L xs s s.heap) (hbl : b < s.heap.size) (hbA : ¬ A b) (N x0 : Nat) (Rel : Cz → Mz → Prop) (hK0 : ∀ κ μ, Rel κ μ → isK κ x0 11 = true) (S : Sm_rings N x0 Rel) (hR : Rel κ μ) {x3 : Int32} {t : Nat} (hx3 : x3 = nI t) (ht : t + 6 ≤ L) (hL : L ≤ 3072) (hce : ce + 17 ≤ 600000) (hsl : sl + 1608 ≤ 7302250) (kk : ∀ (κ1 : Cz) (μ1 : Mz), Rel κ1 μ1 → JL p l e s m b below meth c D θ η A (ce + 17) (sl + 1608) κ1 μ1 [(0, .ref b), (1, .ref x0), (2, .ref η.1), (3, .int x3)] [] 1210) : JL p l e s m b below meth c D θ η A ce sl κ μ [(0, .ref b), (1, .ref x0), (2, .ref η.1), (3, .int x3)] [] 666 := by
  obtain ⟨r, κ1, μ1, e1, e2, hR1⟩ := S κ μ  hR
  refine j_aload_n K 1 dL_666 rfl rfl ?_
  refine lcallF K hN hSC (c_ErrataRow_rings_ok l D θ N x0  κ _ e1) lG_90 eh_ErrataRow_rings (by decide) (by decide) rfl (hK0 κ μ hR) rfl (st := []) (Nat.le_of_ble_eq_true rfl) rfl dL_667 ⟨by simp only [room_1]; omega, by simp only [room_1]; omega⟩ ?_
  refine j_aload_n K 2 dL_670 rfl rfl ?_
  refine lcallM K (c12_rings_ok l D η N  μ _ e2) lG_93 lh_rings (by decide) (by decide) rfl rfl (st := [.int r]) (Nat.le_of_ble_eq_true rfl) rfl dL_671 ⟨by simp only [room_1]; omega, by simp only [room_1]; omega⟩ ?_
  refine j_icmp_eq (tgt := 1210) K dL_674 (by decide) (fun q => ?_) (fun q => absurd rfl q)
  exact l_widen (by omega) (by omega) (kk κ1 μ1 hR1)
set_option maxHeartbeats 1000000 in
set_option maxRecDepth 100000 in
theorem law_twice {p : Program} {l : Launch} {e : Env} {s : State} {m : MethodId} {b L : Nat} {xs : Nat → Int32} {below : List Frame} {meth : Method} {c : Code} {D : va_G} {θ : Tc} {η : Th} {ad : Ad} {A : Nat → Prop} {ce sl : Nat} {κ : Cz} {μ : Mz} (K : KL p s m b c D θ η A) (hN : NX s) (hSC : SC ad A s s.heap) (hX : va_X b L xs s s.heap) (hbl : b < s.heap.size) (hbA : ¬ A b) (N x0 : Nat) (Rel : Cz → Mz → Prop) (hK0 : ∀ κ μ, Rel κ μ → isK κ x0 11 = true) (S : Sm_twice N x0 Rel) (hR : Rel κ μ) {x3 : Int32} {t : Nat} (hx3 : x3 = nI t) (ht : t + 6 ≤ L) (hL : L ≤ 3072) (hce : ce + 17 ≤ 600000) (hsl : sl + 1608 ≤ 7302250) (kk : ∀ (κ1 : Cz) (μ1 : Mz), Rel κ1 μ1 → JL p l e s m b below meth c D θ η A (ce + 17) (sl + 1608) κ1 μ1 [(0, .ref b), (1, .ref x0), (2, .ref η.1), (3, .int x3)] [] 1210) : JL p l e s m b below meth c D θ η A ce sl κ μ [(0, .ref b), (1, .ref x0), (2, .ref η.1), (3, .int x3)] [] 679 := by
  obtain ⟨r, κ1, μ1, e1, e2, hR1⟩ := S κ μ (xs (x3 + 1).toNatClampNeg) hR
  refine j_aload_n K 1 dL_679 rfl rfl ?_
  refine j_aload_n K 0 dL_680 rfl rfl ?_
  refine j_iload_n K 3 dL_681 rfl rfl ?_
  refine j_iconst (v := 1) K dL_682 (by decide) ?_
  refine j_iadd K dL_683 ?_
  refine l_sld K hX hbl hbA (l_in1 hx3 ht hL) dL_684 ?_
  refine lcallF K hN hSC (c_ErrataRow_twice_ok l D θ N x0 (xs (x3 + 1).toNatClampNeg) κ _ e1) lG_94 eh_ErrataRow_twice (by decide) (by decide) rfl (hK0 κ μ hR) rfl (st := []) (Nat.le_of_ble_eq_true rfl) rfl dL_685 ⟨by simp only [room_1]; omega, by simp only [room_1]; omega⟩ ?_
  refine j_aload_n K 2 dL_688 rfl rfl ?_
  refine j_aload_n K 0 dL_689 rfl rfl ?_
  refine j_iload_n K 3 dL_690 rfl rfl ?_
  refine j_iconst (v := 1) K dL_691 (by decide) ?_
  refine j_iadd K dL_692 ?_
  refine l_sld K hX hbl hbA (l_in1 hx3 ht hL) dL_693 ?_
  refine lcallM K (c12_twice_ok l D η N (xs (x3 + 1).toNatClampNeg) μ _ e2) lG_97 lh_twice (by decide) (by decide) rfl rfl (st := [.int r]) (Nat.le_of_ble_eq_true rfl) rfl dL_694 ⟨by simp only [room_1]; omega, by simp only [room_1]; omega⟩ ?_
  refine j_icmp_eq (tgt := 1210) K dL_697 (by decide) (fun q => ?_) (fun q => absurd rfl q)
  exact l_widen (by omega) (by omega) (kk κ1 μ1 hR1)
set_option maxHeartbeats 1000000 in
set_option maxRecDepth 100000 in
theorem law_apart {p : Program} {l : Launch} {e : Env} {s : State} {m : MethodId} {b L : Nat} {xs : Nat → Int32} {below : List Frame} {meth : Method} {c : Code} {D : va_G} {θ : Tc} {η : Th} {ad : Ad} {A : Nat → Prop} {ce sl : Nat} {κ : Cz} {μ : Mz} (K : KL p s m b c D θ η A) (hN : NX s) (hSC : SC ad A s s.heap) (hX : va_X b L xs s s.heap) (hbl : b < s.heap.size) (hbA : ¬ A b) (N x0 : Nat) (Rel : Cz → Mz → Prop) (hK0 : ∀ κ μ, Rel κ μ → isK κ x0 11 = true) (S : Sm_apart N x0 Rel) (hR : Rel κ μ) {x3 : Int32} {t : Nat} (hx3 : x3 = nI t) (ht : t + 6 ≤ L) (hL : L ≤ 3072) (hce : ce + 17 ≤ 600000) (hsl : sl + 1608 ≤ 7302250) (kk : ∀ (κ1 : Cz) (μ1 : Mz), Rel κ1 μ1 → JL p l e s m b below meth c D θ η A (ce + 17) (sl + 1608) κ1 μ1 [(0, .ref b), (1, .ref x0), (2, .ref η.1), (3, .int x3)] [] 1210) : JL p l e s m b below meth c D θ η A ce sl κ μ [(0, .ref b), (1, .ref x0), (2, .ref η.1), (3, .int x3)] [] 702 := by
  obtain ⟨r, κ1, μ1, e1, e2, hR1⟩ := S κ μ (xs (x3 + 1).toNatClampNeg) (xs (x3 + 2).toNatClampNeg) (xs (x3 + 3).toNatClampNeg) hR
  refine j_aload_n K 1 dL_702 rfl rfl ?_
  refine j_aload_n K 0 dL_703 rfl rfl ?_
  refine j_iload_n K 3 dL_704 rfl rfl ?_
  refine j_iconst (v := 1) K dL_705 (by decide) ?_
  refine j_iadd K dL_706 ?_
  refine l_sld K hX hbl hbA (l_in1 hx3 ht hL) dL_707 ?_
  refine j_aload_n K 0 dL_708 rfl rfl ?_
  refine j_iload_n K 3 dL_709 rfl rfl ?_
  refine j_iconst (v := 2) K dL_710 (by decide) ?_
  refine j_iadd K dL_711 ?_
  refine l_sld K hX hbl hbA (l_in2 hx3 ht hL) dL_712 ?_
  refine j_aload_n K 0 dL_713 rfl rfl ?_
  refine j_iload_n K 3 dL_714 rfl rfl ?_
  refine j_iconst (v := 3) K dL_715 (by decide) ?_
  refine j_iadd K dL_716 ?_
  refine l_sld K hX hbl hbA (l_in3 hx3 ht hL) dL_717 ?_
  refine lcallF K hN hSC (c_ErrataRow_apart_ok l D θ N x0 (xs (x3 + 1).toNatClampNeg) (xs (x3 + 2).toNatClampNeg) (xs (x3 + 3).toNatClampNeg) κ _ e1) lG_98 eh_ErrataRow_apart (by decide) (by decide) rfl (hK0 κ μ hR) rfl (st := []) (Nat.le_of_ble_eq_true rfl) rfl dL_718 ⟨by simp only [room_1]; omega, by simp only [room_1]; omega⟩ ?_
  refine j_aload_n K 2 dL_721 rfl rfl ?_
  refine j_aload_n K 0 dL_722 rfl rfl ?_
  refine j_iload_n K 3 dL_723 rfl rfl ?_
  refine j_iconst (v := 1) K dL_724 (by decide) ?_
  refine j_iadd K dL_725 ?_
  refine l_sld K hX hbl hbA (l_in1 hx3 ht hL) dL_726 ?_
  refine j_aload_n K 0 dL_727 rfl rfl ?_
  refine j_iload_n K 3 dL_728 rfl rfl ?_
  refine j_iconst (v := 2) K dL_729 (by decide) ?_
  refine j_iadd K dL_730 ?_
  refine l_sld K hX hbl hbA (l_in2 hx3 ht hL) dL_731 ?_
  refine j_aload_n K 0 dL_732 rfl rfl ?_
  refine j_iload_n K 3 dL_733 rfl rfl ?_
  refine j_iconst (v := 3) K dL_734 (by decide) ?_
  refine j_iadd K dL_735 ?_
  refine l_sld K hX hbl hbA (l_in3 hx3 ht hL) dL_736 ?_
  refine lcallM K (c12_apart_ok l D η N (xs (x3 + 1).toNatClampNeg) (xs (x3 + 2).toNatClampNeg) (xs (x3 + 3).toNatClampNeg) μ _ e2) lG_101 lh_apart (by decide) (by decide) rfl rfl (st := [.int r]) (Nat.le_of_ble_eq_true rfl) rfl dL_737 ⟨by simp only [room_1]; omega, by simp only [room_1]; omega⟩ ?_
  refine j_icmp_eq (tgt := 1210) K dL_740 (by decide) (fun q => ?_) (fun q => absurd rfl q)
  exact l_widen (by omega) (by omega) (kk κ1 μ1 hR1)
set_option maxHeartbeats 1000000 in
set_option maxRecDepth 100000 in
theorem law_one {p : Program} {l : Launch} {e : Env} {s : State} {m : MethodId} {b L : Nat} {xs : Nat → Int32} {below : List Frame} {meth : Method} {c : Code} {D : va_G} {θ : Tc} {η : Th} {ad : Ad} {A : Nat → Prop} {ce sl : Nat} {κ : Cz} {μ : Mz} (K : KL p s m b c D θ η A) (hN : NX s) (hSC : SC ad A s s.heap) (hX : va_X b L xs s s.heap) (hbl : b < s.heap.size) (hbA : ¬ A b) (N x0 : Nat) (Rel : Cz → Mz → Prop) (hK0 : ∀ κ μ, Rel κ μ → isK κ x0 11 = true) (S : Sm_one N x0 Rel) (hR : Rel κ μ) {x3 : Int32} {t : Nat} (hx3 : x3 = nI t) (ht : t + 6 ≤ L) (hL : L ≤ 3072) (hce : ce + 17 ≤ 600000) (hsl : sl + 1608 ≤ 7302250) (kk : ∀ (κ1 : Cz) (μ1 : Mz), Rel κ1 μ1 → JL p l e s m b below meth c D θ η A (ce + 17) (sl + 1608) κ1 μ1 [(0, .ref b), (1, .ref x0), (2, .ref η.1), (3, .int x3)] [] 1210) : JL p l e s m b below meth c D θ η A ce sl κ μ [(0, .ref b), (1, .ref x0), (2, .ref η.1), (3, .int x3)] [] 745 := by
  obtain ⟨r, κ1, μ1, e1, e2, hR1⟩ := S κ μ (xs (x3 + 1).toNatClampNeg) (xs (x3 + 2).toNatClampNeg) hR
  refine j_aload_n K 1 dL_745 rfl rfl ?_
  refine j_aload_n K 0 dL_746 rfl rfl ?_
  refine j_iload_n K 3 dL_747 rfl rfl ?_
  refine j_iconst (v := 1) K dL_748 (by decide) ?_
  refine j_iadd K dL_749 ?_
  refine l_sld K hX hbl hbA (l_in1 hx3 ht hL) dL_750 ?_
  refine j_aload_n K 0 dL_751 rfl rfl ?_
  refine j_iload_n K 3 dL_752 rfl rfl ?_
  refine j_iconst (v := 2) K dL_753 (by decide) ?_
  refine j_iadd K dL_754 ?_
  refine l_sld K hX hbl hbA (l_in2 hx3 ht hL) dL_755 ?_
  refine lcallF K hN hSC (c_ErrataRow_one_ok l D θ N x0 (xs (x3 + 1).toNatClampNeg) (xs (x3 + 2).toNatClampNeg) κ _ e1) lG_102 eh_ErrataRow_one (by decide) (by decide) rfl (hK0 κ μ hR) rfl (st := []) (Nat.le_of_ble_eq_true rfl) rfl dL_756 ⟨by simp only [room_1]; omega, by simp only [room_1]; omega⟩ ?_
  refine j_aload_n K 2 dL_759 rfl rfl ?_
  refine j_aload_n K 0 dL_760 rfl rfl ?_
  refine j_iload_n K 3 dL_761 rfl rfl ?_
  refine j_iconst (v := 1) K dL_762 (by decide) ?_
  refine j_iadd K dL_763 ?_
  refine l_sld K hX hbl hbA (l_in1 hx3 ht hL) dL_764 ?_
  refine j_aload_n K 0 dL_765 rfl rfl ?_
  refine j_iload_n K 3 dL_766 rfl rfl ?_
  refine j_iconst (v := 2) K dL_767 (by decide) ?_
  refine j_iadd K dL_768 ?_
  refine l_sld K hX hbl hbA (l_in2 hx3 ht hL) dL_769 ?_
  refine lcallM K (c12_one_ok l D η N (xs (x3 + 1).toNatClampNeg) (xs (x3 + 2).toNatClampNeg) μ _ e2) lG_105 lh_one (by decide) (by decide) rfl rfl (st := [.int r]) (Nat.le_of_ble_eq_true rfl) rfl dL_770 ⟨by simp only [room_1]; omega, by simp only [room_1]; omega⟩ ?_
  refine j_icmp_eq (tgt := 1210) K dL_773 (by decide) (fun q => ?_) (fun q => absurd rfl q)
  exact l_widen (by omega) (by omega) (kk κ1 μ1 hR1)
set_option maxHeartbeats 1000000 in
set_option maxRecDepth 100000 in
theorem law_leftOff {p : Program} {l : Launch} {e : Env} {s : State} {m : MethodId} {b L : Nat} {xs : Nat → Int32} {below : List Frame} {meth : Method} {c : Code} {D : va_G} {θ : Tc} {η : Th} {ad : Ad} {A : Nat → Prop} {ce sl : Nat} {κ : Cz} {μ : Mz} (K : KL p s m b c D θ η A) (hN : NX s) (hSC : SC ad A s s.heap) (hX : va_X b L xs s s.heap) (hbl : b < s.heap.size) (hbA : ¬ A b) (N x0 : Nat) (Rel : Cz → Mz → Prop) (hK0 : ∀ κ μ, Rel κ μ → isK κ x0 11 = true) (S : Sm_leftOff N x0 Rel) (hR : Rel κ μ) {x3 : Int32} {t : Nat} (hx3 : x3 = nI t) (ht : t + 6 ≤ L) (hL : L ≤ 3072) (hce : ce + 17 ≤ 600000) (hsl : sl + 1608 ≤ 7302250) (kk : ∀ (κ1 : Cz) (μ1 : Mz), Rel κ1 μ1 → JL p l e s m b below meth c D θ η A (ce + 17) (sl + 1608) κ1 μ1 [(0, .ref b), (1, .ref x0), (2, .ref η.1), (3, .int x3)] [] 1210) : JL p l e s m b below meth c D θ η A ce sl κ μ [(0, .ref b), (1, .ref x0), (2, .ref η.1), (3, .int x3)] [] 778 := by
  obtain ⟨r, κ1, μ1, e1, e2, hR1⟩ := S κ μ (xs (x3 + 1).toNatClampNeg) (xs (x3 + 2).toNatClampNeg) hR
  refine j_aload_n K 1 dL_778 rfl rfl ?_
  refine j_aload_n K 0 dL_779 rfl rfl ?_
  refine j_iload_n K 3 dL_780 rfl rfl ?_
  refine j_iconst (v := 1) K dL_781 (by decide) ?_
  refine j_iadd K dL_782 ?_
  refine l_sld K hX hbl hbA (l_in1 hx3 ht hL) dL_783 ?_
  refine j_aload_n K 0 dL_784 rfl rfl ?_
  refine j_iload_n K 3 dL_785 rfl rfl ?_
  refine j_iconst (v := 2) K dL_786 (by decide) ?_
  refine j_iadd K dL_787 ?_
  refine l_sld K hX hbl hbA (l_in2 hx3 ht hL) dL_788 ?_
  refine lcallF K hN hSC (c_ErrataRow_leftOff_ok l D θ N x0 (xs (x3 + 1).toNatClampNeg) (xs (x3 + 2).toNatClampNeg) κ _ e1) lG_106 eh_ErrataRow_leftOff (by decide) (by decide) rfl (hK0 κ μ hR) rfl (st := []) (Nat.le_of_ble_eq_true rfl) rfl dL_789 ⟨by simp only [room_1]; omega, by simp only [room_1]; omega⟩ ?_
  refine j_aload_n K 2 dL_792 rfl rfl ?_
  refine j_aload_n K 0 dL_793 rfl rfl ?_
  refine j_iload_n K 3 dL_794 rfl rfl ?_
  refine j_iconst (v := 1) K dL_795 (by decide) ?_
  refine j_iadd K dL_796 ?_
  refine l_sld K hX hbl hbA (l_in1 hx3 ht hL) dL_797 ?_
  refine j_aload_n K 0 dL_798 rfl rfl ?_
  refine j_iload_n K 3 dL_799 rfl rfl ?_
  refine j_iconst (v := 2) K dL_800 (by decide) ?_
  refine j_iadd K dL_801 ?_
  refine l_sld K hX hbl hbA (l_in2 hx3 ht hL) dL_802 ?_
  refine lcallM K (c12_leftOff_ok l D η N (xs (x3 + 1).toNatClampNeg) (xs (x3 + 2).toNatClampNeg) μ _ e2) lG_109 lh_leftOff (by decide) (by decide) rfl rfl (st := [.int r]) (Nat.le_of_ble_eq_true rfl) rfl dL_803 ⟨by simp only [room_1]; omega, by simp only [room_1]; omega⟩ ?_
  refine j_icmp_eq (tgt := 1210) K dL_806 (by decide) (fun q => ?_) (fun q => absurd rfl q)
  exact l_widen (by omega) (by omega) (kk κ1 μ1 hR1)
set_option maxHeartbeats 1000000 in
set_option maxRecDepth 100000 in
theorem law_leastPurse {p : Program} {l : Launch} {e : Env} {s : State} {m : MethodId} {b L : Nat} {xs : Nat → Int32} {below : List Frame} {meth : Method} {c : Code} {D : va_G} {θ : Tc} {η : Th} {ad : Ad} {A : Nat → Prop} {ce sl : Nat} {κ : Cz} {μ : Mz} (K : KL p s m b c D θ η A) (hN : NX s) (hSC : SC ad A s s.heap) (hX : va_X b L xs s s.heap) (hbl : b < s.heap.size) (hbA : ¬ A b) (N x0 : Nat) (Rel : Cz → Mz → Prop) (hK0 : ∀ κ μ, Rel κ μ → isK κ x0 11 = true) (S : Sm_leastPurse N x0 Rel) (hR : Rel κ μ) {x3 : Int32} {t : Nat} (hx3 : x3 = nI t) (ht : t + 6 ≤ L) (hL : L ≤ 3072) (hce : ce + 17 ≤ 600000) (hsl : sl + 1608 ≤ 7302250) (kk : ∀ (κ1 : Cz) (μ1 : Mz), Rel κ1 μ1 → JL p l e s m b below meth c D θ η A (ce + 17) (sl + 1608) κ1 μ1 [(0, .ref b), (1, .ref x0), (2, .ref η.1), (3, .int x3)] [] 1210) : JL p l e s m b below meth c D θ η A ce sl κ μ [(0, .ref b), (1, .ref x0), (2, .ref η.1), (3, .int x3)] [] 811 := by
  obtain ⟨r, κ1, μ1, e1, e2, hR1⟩ := S κ μ (xs (x3 + 1).toNatClampNeg) hR
  refine j_aload_n K 1 dL_811 rfl rfl ?_
  refine j_aload_n K 0 dL_812 rfl rfl ?_
  refine j_iload_n K 3 dL_813 rfl rfl ?_
  refine j_iconst (v := 1) K dL_814 (by decide) ?_
  refine j_iadd K dL_815 ?_
  refine l_sld K hX hbl hbA (l_in1 hx3 ht hL) dL_816 ?_
  refine lcallF K hN hSC (c_ErrataRow_leastPurse_ok l D θ N x0 (xs (x3 + 1).toNatClampNeg) κ _ e1) lG_110 eh_ErrataRow_leastPurse (by decide) (by decide) rfl (hK0 κ μ hR) rfl (st := []) (Nat.le_of_ble_eq_true rfl) rfl dL_817 ⟨by simp only [room_1]; omega, by simp only [room_1]; omega⟩ ?_
  refine j_aload_n K 2 dL_820 rfl rfl ?_
  refine j_aload_n K 0 dL_821 rfl rfl ?_
  refine j_iload_n K 3 dL_822 rfl rfl ?_
  refine j_iconst (v := 1) K dL_823 (by decide) ?_
  refine j_iadd K dL_824 ?_
  refine l_sld K hX hbl hbA (l_in1 hx3 ht hL) dL_825 ?_
  refine lcallM K (c12_leastPurse_ok l D η N (xs (x3 + 1).toNatClampNeg) μ _ e2) lG_113 lh_leastPurse (by decide) (by decide) rfl rfl (st := [.int r]) (Nat.le_of_ble_eq_true rfl) rfl dL_826 ⟨by simp only [room_1]; omega, by simp only [room_1]; omega⟩ ?_
  refine j_icmp_eq (tgt := 1210) K dL_829 (by decide) (fun q => ?_) (fun q => absurd rfl q)
  exact l_widen (by omega) (by omega) (kk κ1 μ1 hR1)
set_option maxHeartbeats 1000000 in
set_option maxRecDepth 100000 in
theorem law_putAs {p : Program} {l : Launch} {e : Env} {s : State} {m : MethodId} {b L : Nat} {xs : Nat → Int32} {below : List Frame} {meth : Method} {c : Code} {D : va_G} {θ : Tc} {η : Th} {ad : Ad} {A : Nat → Prop} {ce sl : Nat} {κ : Cz} {μ : Mz} (K : KL p s m b c D θ η A) (hN : NX s) (hSC : SC ad A s s.heap) (hX : va_X b L xs s s.heap) (hbl : b < s.heap.size) (hbA : ¬ A b) (N x0 : Nat) (Rel : Cz → Mz → Prop) (hK0 : ∀ κ μ, Rel κ μ → isK κ x0 11 = true) (S : Sm_putAs N x0 Rel) (hR : Rel κ μ) {x3 : Int32} {t : Nat} (hx3 : x3 = nI t) (ht : t + 6 ≤ L) (hL : L ≤ 3072) (hce : ce + 17 ≤ 600000) (hsl : sl + 1608 ≤ 7302250) (kk : ∀ (κ1 : Cz) (μ1 : Mz), Rel κ1 μ1 → JL p l e s m b below meth c D θ η A (ce + 17) (sl + 1608) κ1 μ1 [(0, .ref b), (1, .ref x0), (2, .ref η.1), (3, .int x3)] [] 1210) : JL p l e s m b below meth c D θ η A ce sl κ μ [(0, .ref b), (1, .ref x0), (2, .ref η.1), (3, .int x3)] [] 834 := by
  obtain ⟨r, κ1, μ1, e1, e2, hR1⟩ := S κ μ (xs (x3 + 1).toNatClampNeg) hR
  refine j_aload_n K 1 dL_834 rfl rfl ?_
  refine j_aload_n K 0 dL_835 rfl rfl ?_
  refine j_iload_n K 3 dL_836 rfl rfl ?_
  refine j_iconst (v := 1) K dL_837 (by decide) ?_
  refine j_iadd K dL_838 ?_
  refine l_sld K hX hbl hbA (l_in1 hx3 ht hL) dL_839 ?_
  refine lcallF K hN hSC (c_ErrataRow_putAs_ok l D θ N x0 (xs (x3 + 1).toNatClampNeg) κ _ e1) lG_114 eh_ErrataRow_putAs (by decide) (by decide) rfl (hK0 κ μ hR) rfl (st := []) (Nat.le_of_ble_eq_true rfl) rfl dL_840 ⟨by simp only [room_1]; omega, by simp only [room_1]; omega⟩ ?_
  refine j_aload_n K 2 dL_843 rfl rfl ?_
  refine j_aload_n K 0 dL_844 rfl rfl ?_
  refine j_iload_n K 3 dL_845 rfl rfl ?_
  refine j_iconst (v := 1) K dL_846 (by decide) ?_
  refine j_iadd K dL_847 ?_
  refine l_sld K hX hbl hbA (l_in1 hx3 ht hL) dL_848 ?_
  refine lcallM K (c12_putAs_ok l D η N (xs (x3 + 1).toNatClampNeg) μ _ e2) lG_117 lh_putAs (by decide) (by decide) rfl rfl (st := [.int r]) (Nat.le_of_ble_eq_true rfl) rfl dL_849 ⟨by simp only [room_1]; omega, by simp only [room_1]; omega⟩ ?_
  refine j_icmp_eq (tgt := 1210) K dL_852 (by decide) (fun q => ?_) (fun q => absurd rfl q)
  exact l_widen (by omega) (by omega) (kk κ1 μ1 hR1)
set_option maxHeartbeats 1000000 in
set_option maxRecDepth 100000 in
theorem law_rests {p : Program} {l : Launch} {e : Env} {s : State} {m : MethodId} {b L : Nat} {xs : Nat → Int32} {below : List Frame} {meth : Method} {c : Code} {D : va_G} {θ : Tc} {η : Th} {ad : Ad} {A : Nat → Prop} {ce sl : Nat} {κ : Cz} {μ : Mz} (K : KL p s m b c D θ η A) (hN : NX s) (hSC : SC ad A s s.heap) (hX : va_X b L xs s s.heap) (hbl : b < s.heap.size) (hbA : ¬ A b) (N x0 : Nat) (Rel : Cz → Mz → Prop) (hK0 : ∀ κ μ, Rel κ μ → isK κ x0 11 = true) (S : Sm_rests N x0 Rel) (hR : Rel κ μ) {x3 : Int32} {t : Nat} (hx3 : x3 = nI t) (ht : t + 6 ≤ L) (hL : L ≤ 3072) (hce : ce + 17 ≤ 600000) (hsl : sl + 1608 ≤ 7302250) (kk : ∀ (κ1 : Cz) (μ1 : Mz), Rel κ1 μ1 → JL p l e s m b below meth c D θ η A (ce + 17) (sl + 1608) κ1 μ1 [(0, .ref b), (1, .ref x0), (2, .ref η.1), (3, .int x3)] [] 1210) : JL p l e s m b below meth c D θ η A ce sl κ μ [(0, .ref b), (1, .ref x0), (2, .ref η.1), (3, .int x3)] [] 857 := by
  obtain ⟨r, κ1, μ1, e1, e2, hR1⟩ := S κ μ (xs (x3 + 1).toNatClampNeg) (xs (x3 + 2).toNatClampNeg) (xs (x3 + 3).toNatClampNeg) (xs (x3 + 4).toNatClampNeg) hR
  refine j_aload_n K 1 dL_857 rfl rfl ?_
  refine j_aload_n K 0 dL_858 rfl rfl ?_
  refine j_iload_n K 3 dL_859 rfl rfl ?_
  refine j_iconst (v := 1) K dL_860 (by decide) ?_
  refine j_iadd K dL_861 ?_
  refine l_sld K hX hbl hbA (l_in1 hx3 ht hL) dL_862 ?_
  refine j_aload_n K 0 dL_863 rfl rfl ?_
  refine j_iload_n K 3 dL_864 rfl rfl ?_
  refine j_iconst (v := 2) K dL_865 (by decide) ?_
  refine j_iadd K dL_866 ?_
  refine l_sld K hX hbl hbA (l_in2 hx3 ht hL) dL_867 ?_
  refine j_aload_n K 0 dL_868 rfl rfl ?_
  refine j_iload_n K 3 dL_869 rfl rfl ?_
  refine j_iconst (v := 3) K dL_870 (by decide) ?_
  refine j_iadd K dL_871 ?_
  refine l_sld K hX hbl hbA (l_in3 hx3 ht hL) dL_872 ?_
  refine j_aload_n K 0 dL_873 rfl rfl ?_
  refine j_iload_n K 3 dL_874 rfl rfl ?_
  refine j_iconst (v := 4) K dL_875 (by decide) ?_
  refine j_iadd K dL_876 ?_
  refine l_sld K hX hbl hbA (l_in4 hx3 ht hL) dL_877 ?_
  refine lcallF K hN hSC (c_ErrataRow_rests_ok l D θ N x0 (xs (x3 + 1).toNatClampNeg) (xs (x3 + 2).toNatClampNeg) (xs (x3 + 3).toNatClampNeg) (xs (x3 + 4).toNatClampNeg) κ _ e1) lG_118 eh_ErrataRow_rests (by decide) (by decide) rfl (hK0 κ μ hR) rfl (st := []) (Nat.le_of_ble_eq_true rfl) rfl dL_878 ⟨by simp only [room_1]; omega, by simp only [room_1]; omega⟩ ?_
  refine j_aload_n K 2 dL_881 rfl rfl ?_
  refine j_aload_n K 0 dL_882 rfl rfl ?_
  refine j_iload_n K 3 dL_883 rfl rfl ?_
  refine j_iconst (v := 1) K dL_884 (by decide) ?_
  refine j_iadd K dL_885 ?_
  refine l_sld K hX hbl hbA (l_in1 hx3 ht hL) dL_886 ?_
  refine j_aload_n K 0 dL_887 rfl rfl ?_
  refine j_iload_n K 3 dL_888 rfl rfl ?_
  refine j_iconst (v := 2) K dL_889 (by decide) ?_
  refine j_iadd K dL_890 ?_
  refine l_sld K hX hbl hbA (l_in2 hx3 ht hL) dL_891 ?_
  refine j_aload_n K 0 dL_892 rfl rfl ?_
  refine j_iload_n K 3 dL_893 rfl rfl ?_
  refine j_iconst (v := 3) K dL_894 (by decide) ?_
  refine j_iadd K dL_895 ?_
  refine l_sld K hX hbl hbA (l_in3 hx3 ht hL) dL_896 ?_
  refine j_aload_n K 0 dL_897 rfl rfl ?_
  refine j_iload_n K 3 dL_898 rfl rfl ?_
  refine j_iconst (v := 4) K dL_899 (by decide) ?_
  refine j_iadd K dL_900 ?_
  refine l_sld K hX hbl hbA (l_in4 hx3 ht hL) dL_901 ?_
  refine lcallM K (c12_rests_ok l D η N (xs (x3 + 1).toNatClampNeg) (xs (x3 + 2).toNatClampNeg) (xs (x3 + 3).toNatClampNeg) (xs (x3 + 4).toNatClampNeg) μ _ e2) lG_122 lh_rests (by decide) (by decide) rfl rfl (st := [.int r]) (Nat.le_of_ble_eq_true rfl) rfl dL_902 ⟨by simp only [room_1]; omega, by simp only [room_1]; omega⟩ ?_
  refine j_icmp_eq (tgt := 1210) K dL_905 (by decide) (fun q => ?_) (fun q => absurd rfl q)
  exact l_widen (by omega) (by omega) (kk κ1 μ1 hR1)
set_option maxHeartbeats 1000000 in
set_option maxRecDepth 100000 in
theorem law_ring {p : Program} {l : Launch} {e : Env} {s : State} {m : MethodId} {b L : Nat} {xs : Nat → Int32} {below : List Frame} {meth : Method} {c : Code} {D : va_G} {θ : Tc} {η : Th} {ad : Ad} {A : Nat → Prop} {ce sl : Nat} {κ : Cz} {μ : Mz} (K : KL p s m b c D θ η A) (hN : NX s) (hSC : SC ad A s s.heap) (hX : va_X b L xs s s.heap) (hbl : b < s.heap.size) (hbA : ¬ A b) (N x0 : Nat) (Rel : Cz → Mz → Prop) (hK0 : ∀ κ μ, Rel κ μ → isK κ x0 11 = true) (S : Sm_ring N x0 Rel) (hR : Rel κ μ) {x3 : Int32} {t : Nat} (hx3 : x3 = nI t) (ht : t + 6 ≤ L) (hL : L ≤ 3072) (hce : ce + 17 ≤ 600000) (hsl : sl + 1608 ≤ 7302250) (kk : ∀ (κ1 : Cz) (μ1 : Mz), Rel κ1 μ1 → JL p l e s m b below meth c D θ η A (ce + 17) (sl + 1608) κ1 μ1 [(0, .ref b), (1, .ref x0), (2, .ref η.1), (3, .int x3)] [] 1210) : JL p l e s m b below meth c D θ η A ce sl κ μ [(0, .ref b), (1, .ref x0), (2, .ref η.1), (3, .int x3)] [] 910 := by
  obtain ⟨r, κ1, μ1, e1, e2, hR1⟩ := S κ μ (xs (x3 + 1).toNatClampNeg) hR
  refine j_aload_n K 1 dL_910 rfl rfl ?_
  refine j_aload_n K 0 dL_911 rfl rfl ?_
  refine j_iload_n K 3 dL_912 rfl rfl ?_
  refine j_iconst (v := 1) K dL_913 (by decide) ?_
  refine j_iadd K dL_914 ?_
  refine l_sld K hX hbl hbA (l_in1 hx3 ht hL) dL_915 ?_
  refine lcallF K hN hSC (c_ErrataRow_ring_ok l D θ N x0 (xs (x3 + 1).toNatClampNeg) κ _ e1) lG_123 eh_ErrataRow_ring (by decide) (by decide) rfl (hK0 κ μ hR) rfl (st := []) (Nat.le_of_ble_eq_true rfl) rfl dL_916 ⟨by simp only [room_1]; omega, by simp only [room_1]; omega⟩ ?_
  refine j_aload_n K 2 dL_919 rfl rfl ?_
  refine j_aload_n K 0 dL_920 rfl rfl ?_
  refine j_iload_n K 3 dL_921 rfl rfl ?_
  refine j_iconst (v := 1) K dL_922 (by decide) ?_
  refine j_iadd K dL_923 ?_
  refine l_sld K hX hbl hbA (l_in1 hx3 ht hL) dL_924 ?_
  refine lcallM K (c12_ring_ok l D η N (xs (x3 + 1).toNatClampNeg) μ _ e2) lG_126 lh_ring (by decide) (by decide) rfl rfl (st := [.int r]) (Nat.le_of_ble_eq_true rfl) rfl dL_925 ⟨by simp only [room_1]; omega, by simp only [room_1]; omega⟩ ?_
  refine j_icmp_eq (tgt := 1210) K dL_928 (by decide) (fun q => ?_) (fun q => absurd rfl q)
  exact l_widen (by omega) (by omega) (kk κ1 μ1 hR1)
set_option maxHeartbeats 1000000 in
set_option maxRecDepth 100000 in
theorem law_pence {p : Program} {l : Launch} {e : Env} {s : State} {m : MethodId} {b L : Nat} {xs : Nat → Int32} {below : List Frame} {meth : Method} {c : Code} {D : va_G} {θ : Tc} {η : Th} {ad : Ad} {A : Nat → Prop} {ce sl : Nat} {κ : Cz} {μ : Mz} (K : KL p s m b c D θ η A) (hN : NX s) (hSC : SC ad A s s.heap) (hX : va_X b L xs s s.heap) (hbl : b < s.heap.size) (hbA : ¬ A b) (N x0 : Nat) (Rel : Cz → Mz → Prop) (hK0 : ∀ κ μ, Rel κ μ → isK κ x0 11 = true) (S : Sm_pence N x0 Rel) (hR : Rel κ μ) {x3 : Int32} {t : Nat} (hx3 : x3 = nI t) (ht : t + 6 ≤ L) (hL : L ≤ 3072) (hce : ce + 17 ≤ 600000) (hsl : sl + 1608 ≤ 7302250) (kk : ∀ (κ1 : Cz) (μ1 : Mz), Rel κ1 μ1 → JL p l e s m b below meth c D θ η A (ce + 17) (sl + 1608) κ1 μ1 [(0, .ref b), (1, .ref x0), (2, .ref η.1), (3, .int x3)] [] 1210) : JL p l e s m b below meth c D θ η A ce sl κ μ [(0, .ref b), (1, .ref x0), (2, .ref η.1), (3, .int x3)] [] 933 := by
  obtain ⟨r, κ1, μ1, e1, e2, hR1⟩ := S κ μ (xs (x3 + 1).toNatClampNeg) (xs (x3 + 2).toNatClampNeg) hR
  refine j_aload_n K 1 dL_933 rfl rfl ?_
  refine j_aload_n K 0 dL_934 rfl rfl ?_
  refine j_iload_n K 3 dL_935 rfl rfl ?_
  refine j_iconst (v := 1) K dL_936 (by decide) ?_
  refine j_iadd K dL_937 ?_
  refine l_sld K hX hbl hbA (l_in1 hx3 ht hL) dL_938 ?_
  refine j_aload_n K 0 dL_939 rfl rfl ?_
  refine j_iload_n K 3 dL_940 rfl rfl ?_
  refine j_iconst (v := 2) K dL_941 (by decide) ?_
  refine j_iadd K dL_942 ?_
  refine l_sld K hX hbl hbA (l_in2 hx3 ht hL) dL_943 ?_
  refine lcallF K hN hSC (c_ErrataRow_pence_ok l D θ N x0 (xs (x3 + 1).toNatClampNeg) (xs (x3 + 2).toNatClampNeg) κ _ e1) lG_127 eh_ErrataRow_pence (by decide) (by decide) rfl (hK0 κ μ hR) rfl (st := []) (Nat.le_of_ble_eq_true rfl) rfl dL_944 ⟨by simp only [room_1]; omega, by simp only [room_1]; omega⟩ ?_
  refine j_aload_n K 2 dL_947 rfl rfl ?_
  refine j_aload_n K 0 dL_948 rfl rfl ?_
  refine j_iload_n K 3 dL_949 rfl rfl ?_
  refine j_iconst (v := 1) K dL_950 (by decide) ?_
  refine j_iadd K dL_951 ?_
  refine l_sld K hX hbl hbA (l_in1 hx3 ht hL) dL_952 ?_
  refine j_aload_n K 0 dL_953 rfl rfl ?_
  refine j_iload_n K 3 dL_954 rfl rfl ?_
  refine j_iconst (v := 2) K dL_955 (by decide) ?_
  refine j_iadd K dL_956 ?_
  refine l_sld K hX hbl hbA (l_in2 hx3 ht hL) dL_957 ?_
  refine lcallM K (c12_pence_ok l D η N (xs (x3 + 1).toNatClampNeg) (xs (x3 + 2).toNatClampNeg) μ _ e2) lG_130 lh_pence (by decide) (by decide) rfl rfl (st := [.int r]) (Nat.le_of_ble_eq_true rfl) rfl dL_958 ⟨by simp only [room_1]; omega, by simp only [room_1]; omega⟩ ?_
  refine j_icmp_eq (tgt := 1210) K dL_961 (by decide) (fun q => ?_) (fun q => absurd rfl q)
  exact l_widen (by omega) (by omega) (kk κ1 μ1 hR1)
set_option maxHeartbeats 1000000 in
set_option maxRecDepth 100000 in
theorem law_note {p : Program} {l : Launch} {e : Env} {s : State} {m : MethodId} {b L : Nat} {xs : Nat → Int32} {below : List Frame} {meth : Method} {c : Code} {D : va_G} {θ : Tc} {η : Th} {ad : Ad} {A : Nat → Prop} {ce sl : Nat} {κ : Cz} {μ : Mz} (K : KL p s m b c D θ η A) (hN : NX s) (hSC : SC ad A s s.heap) (hX : va_X b L xs s s.heap) (hbl : b < s.heap.size) (hbA : ¬ A b) (N x0 : Nat) (Rel : Cz → Mz → Prop) (hK0 : ∀ κ μ, Rel κ μ → isK κ x0 11 = true) (S : Sm_note N x0 Rel) (hR : Rel κ μ) {x3 : Int32} {t : Nat} (hx3 : x3 = nI t) (ht : t + 6 ≤ L) (hL : L ≤ 3072) (hce : ce + 17 ≤ 600000) (hsl : sl + 1608 ≤ 7302250) (kk : ∀ (κ1 : Cz) (μ1 : Mz), Rel κ1 μ1 → JL p l e s m b below meth c D θ η A (ce + 17) (sl + 1608) κ1 μ1 [(0, .ref b), (1, .ref x0), (2, .ref η.1), (3, .int x3)] [] 1210) : JL p l e s m b below meth c D θ η A ce sl κ μ [(0, .ref b), (1, .ref x0), (2, .ref η.1), (3, .int x3)] [] 966 := by
  obtain ⟨r, κ1, μ1, e1, e2, hR1⟩ := S κ μ (xs (x3 + 1).toNatClampNeg) (xs (x3 + 2).toNatClampNeg) (xs (x3 + 3).toNatClampNeg) hR
  refine j_aload_n K 1 dL_966 rfl rfl ?_
  refine j_aload_n K 0 dL_967 rfl rfl ?_
  refine j_iload_n K 3 dL_968 rfl rfl ?_
  refine j_iconst (v := 1) K dL_969 (by decide) ?_
  refine j_iadd K dL_970 ?_
  refine l_sld K hX hbl hbA (l_in1 hx3 ht hL) dL_971 ?_
  refine j_aload_n K 0 dL_972 rfl rfl ?_
  refine j_iload_n K 3 dL_973 rfl rfl ?_
  refine j_iconst (v := 2) K dL_974 (by decide) ?_
  refine j_iadd K dL_975 ?_
  refine l_sld K hX hbl hbA (l_in2 hx3 ht hL) dL_976 ?_
  refine j_aload_n K 0 dL_977 rfl rfl ?_
  refine j_iload_n K 3 dL_978 rfl rfl ?_
  refine j_iconst (v := 3) K dL_979 (by decide) ?_
  refine j_iadd K dL_980 ?_
  refine l_sld K hX hbl hbA (l_in3 hx3 ht hL) dL_981 ?_
  refine lcallF K hN hSC (c_ErrataRow_note_ok l D θ N x0 (xs (x3 + 1).toNatClampNeg) (xs (x3 + 2).toNatClampNeg) (xs (x3 + 3).toNatClampNeg) κ _ e1) lG_131 eh_ErrataRow_note (by decide) (by decide) rfl (hK0 κ μ hR) rfl (st := []) (Nat.le_of_ble_eq_true rfl) rfl dL_982 ⟨by simp only [room_1]; omega, by simp only [room_1]; omega⟩ ?_
  refine j_aload_n K 2 dL_985 rfl rfl ?_
  refine j_aload_n K 0 dL_986 rfl rfl ?_
  refine j_iload_n K 3 dL_987 rfl rfl ?_
  refine j_iconst (v := 1) K dL_988 (by decide) ?_
  refine j_iadd K dL_989 ?_
  refine l_sld K hX hbl hbA (l_in1 hx3 ht hL) dL_990 ?_
  refine j_aload_n K 0 dL_991 rfl rfl ?_
  refine j_iload_n K 3 dL_992 rfl rfl ?_
  refine j_iconst (v := 2) K dL_993 (by decide) ?_
  refine j_iadd K dL_994 ?_
  refine l_sld K hX hbl hbA (l_in2 hx3 ht hL) dL_995 ?_
  refine j_aload_n K 0 dL_996 rfl rfl ?_
  refine j_iload_n K 3 dL_997 rfl rfl ?_
  refine j_iconst (v := 3) K dL_998 (by decide) ?_
  refine j_iadd K dL_999 ?_
  refine l_sld K hX hbl hbA (l_in3 hx3 ht hL) dL_1000 ?_
  refine lcallM K (c12_note_ok l D η N (xs (x3 + 1).toNatClampNeg) (xs (x3 + 2).toNatClampNeg) (xs (x3 + 3).toNatClampNeg) μ _ e2) lG_134 lh_note (by decide) (by decide) rfl rfl (st := [.int r]) (Nat.le_of_ble_eq_true rfl) rfl dL_1001 ⟨by simp only [room_1]; omega, by simp only [room_1]; omega⟩ ?_
  refine j_icmp_eq (tgt := 1210) K dL_1004 (by decide) (fun q => ?_) (fun q => absurd rfl q)
  exact l_widen (by omega) (by omega) (kk κ1 μ1 hR1)
set_option maxHeartbeats 1000000 in
set_option maxRecDepth 100000 in
theorem law_ruled {p : Program} {l : Launch} {e : Env} {s : State} {m : MethodId} {b L : Nat} {xs : Nat → Int32} {below : List Frame} {meth : Method} {c : Code} {D : va_G} {θ : Tc} {η : Th} {ad : Ad} {A : Nat → Prop} {ce sl : Nat} {κ : Cz} {μ : Mz} (K : KL p s m b c D θ η A) (hN : NX s) (hSC : SC ad A s s.heap) (hX : va_X b L xs s s.heap) (hbl : b < s.heap.size) (hbA : ¬ A b) (N x0 : Nat) (Rel : Cz → Mz → Prop) (hK0 : ∀ κ μ, Rel κ μ → isK κ x0 11 = true) (S : Sm_ruled N x0 Rel) (hR : Rel κ μ) {x3 : Int32} {t : Nat} (hx3 : x3 = nI t) (ht : t + 6 ≤ L) (hL : L ≤ 3072) (hce : ce + 17 ≤ 600000) (hsl : sl + 1608 ≤ 7302250) (kk : ∀ (κ1 : Cz) (μ1 : Mz), Rel κ1 μ1 → JL p l e s m b below meth c D θ η A (ce + 17) (sl + 1608) κ1 μ1 [(0, .ref b), (1, .ref x0), (2, .ref η.1), (3, .int x3)] [] 1210) : JL p l e s m b below meth c D θ η A ce sl κ μ [(0, .ref b), (1, .ref x0), (2, .ref η.1), (3, .int x3)] [] 1009 := by
  obtain ⟨r, κ1, μ1, e1, e2, hR1⟩ := S κ μ (xs (x3 + 1).toNatClampNeg) hR
  refine j_aload_n K 1 dL_1009 rfl rfl ?_
  refine j_aload_n K 0 dL_1010 rfl rfl ?_
  refine j_iload_n K 3 dL_1011 rfl rfl ?_
  refine j_iconst (v := 1) K dL_1012 (by decide) ?_
  refine j_iadd K dL_1013 ?_
  refine l_sld K hX hbl hbA (l_in1 hx3 ht hL) dL_1014 ?_
  refine lcallF K hN hSC (c_ErrataRow_ruled_ok l D θ N x0 (xs (x3 + 1).toNatClampNeg) κ _ e1) lG_135 eh_ErrataRow_ruled (by decide) (by decide) rfl (hK0 κ μ hR) rfl (st := []) (Nat.le_of_ble_eq_true rfl) rfl dL_1015 ⟨by simp only [room_1]; omega, by simp only [room_1]; omega⟩ ?_
  refine j_aload_n K 2 dL_1018 rfl rfl ?_
  refine j_aload_n K 0 dL_1019 rfl rfl ?_
  refine j_iload_n K 3 dL_1020 rfl rfl ?_
  refine j_iconst (v := 1) K dL_1021 (by decide) ?_
  refine j_iadd K dL_1022 ?_
  refine l_sld K hX hbl hbA (l_in1 hx3 ht hL) dL_1023 ?_
  refine lcallM K (c12_ruled_ok l D η N (xs (x3 + 1).toNatClampNeg) μ _ e2) lG_138 lh_ruled (by decide) (by decide) rfl rfl (st := [.int r]) (Nat.le_of_ble_eq_true rfl) rfl dL_1024 ⟨by simp only [room_1]; omega, by simp only [room_1]; omega⟩ ?_
  refine j_icmp_eq (tgt := 1210) K dL_1027 (by decide) (fun q => ?_) (fun q => absurd rfl q)
  exact l_widen (by omega) (by omega) (kk κ1 μ1 hR1)
set_option maxHeartbeats 1000000 in
set_option maxRecDepth 100000 in
theorem law_look {p : Program} {l : Launch} {e : Env} {s : State} {m : MethodId} {b L : Nat} {xs : Nat → Int32} {below : List Frame} {meth : Method} {c : Code} {D : va_G} {θ : Tc} {η : Th} {ad : Ad} {A : Nat → Prop} {ce sl : Nat} {κ : Cz} {μ : Mz} (K : KL p s m b c D θ η A) (hN : NX s) (hSC : SC ad A s s.heap) (hX : va_X b L xs s s.heap) (hbl : b < s.heap.size) (hbA : ¬ A b) (N x0 : Nat) (Rel : Cz → Mz → Prop) (hK0 : ∀ κ μ, Rel κ μ → isK κ x0 11 = true) (S : Sm_look N x0 Rel) (hR : Rel κ μ) {x3 : Int32} {t : Nat} (hx3 : x3 = nI t) (ht : t + 6 ≤ L) (hL : L ≤ 3072) (hce : ce + 17 ≤ 600000) (hsl : sl + 1608 ≤ 7302250) (kk : ∀ (κ1 : Cz) (μ1 : Mz), Rel κ1 μ1 → JL p l e s m b below meth c D θ η A (ce + 17) (sl + 1608) κ1 μ1 [(0, .ref b), (1, .ref x0), (2, .ref η.1), (3, .int x3)] [] 1210) : JL p l e s m b below meth c D θ η A ce sl κ μ [(0, .ref b), (1, .ref x0), (2, .ref η.1), (3, .int x3)] [] 1032 := by
  obtain ⟨r, κ1, μ1, e1, e2, hR1⟩ := S κ μ (xs (x3 + 1).toNatClampNeg) (xs (x3 + 2).toNatClampNeg) hR
  refine j_aload_n K 1 dL_1032 rfl rfl ?_
  refine j_aload_n K 0 dL_1033 rfl rfl ?_
  refine j_iload_n K 3 dL_1034 rfl rfl ?_
  refine j_iconst (v := 1) K dL_1035 (by decide) ?_
  refine j_iadd K dL_1036 ?_
  refine l_sld K hX hbl hbA (l_in1 hx3 ht hL) dL_1037 ?_
  refine j_aload_n K 0 dL_1038 rfl rfl ?_
  refine j_iload_n K 3 dL_1039 rfl rfl ?_
  refine j_iconst (v := 2) K dL_1040 (by decide) ?_
  refine j_iadd K dL_1041 ?_
  refine l_sld K hX hbl hbA (l_in2 hx3 ht hL) dL_1042 ?_
  refine lcallF K hN hSC (c_ErrataRow_look_ok l D θ N x0 (xs (x3 + 1).toNatClampNeg) (xs (x3 + 2).toNatClampNeg) κ _ e1) lG_139 eh_ErrataRow_look (by decide) (by decide) rfl (hK0 κ μ hR) rfl (st := []) (Nat.le_of_ble_eq_true rfl) rfl dL_1043 ⟨by simp only [room_1]; omega, by simp only [room_1]; omega⟩ ?_
  refine j_aload_n K 2 dL_1046 rfl rfl ?_
  refine j_aload_n K 0 dL_1047 rfl rfl ?_
  refine j_iload_n K 3 dL_1048 rfl rfl ?_
  refine j_iconst (v := 1) K dL_1049 (by decide) ?_
  refine j_iadd K dL_1050 ?_
  refine l_sld K hX hbl hbA (l_in1 hx3 ht hL) dL_1051 ?_
  refine j_aload_n K 0 dL_1052 rfl rfl ?_
  refine j_iload_n K 3 dL_1053 rfl rfl ?_
  refine j_iconst (v := 2) K dL_1054 (by decide) ?_
  refine j_iadd K dL_1055 ?_
  refine l_sld K hX hbl hbA (l_in2 hx3 ht hL) dL_1056 ?_
  refine lcallM K (c12_look_ok l D η N (xs (x3 + 1).toNatClampNeg) (xs (x3 + 2).toNatClampNeg) μ _ e2) lG_142 lh_look (by decide) (by decide) rfl rfl (st := [.int r]) (Nat.le_of_ble_eq_true rfl) rfl dL_1057 ⟨by simp only [room_1]; omega, by simp only [room_1]; omega⟩ ?_
  refine j_icmp_eq (tgt := 1210) K dL_1060 (by decide) (fun q => ?_) (fun q => absurd rfl q)
  exact l_widen (by omega) (by omega) (kk κ1 μ1 hR1)
set_option maxHeartbeats 1000000 in
set_option maxRecDepth 100000 in
theorem law_seed {p : Program} {l : Launch} {e : Env} {s : State} {m : MethodId} {b L : Nat} {xs : Nat → Int32} {below : List Frame} {meth : Method} {c : Code} {D : va_G} {θ : Tc} {η : Th} {ad : Ad} {A : Nat → Prop} {ce sl : Nat} {κ : Cz} {μ : Mz} (K : KL p s m b c D θ η A) (hN : NX s) (hSC : SC ad A s s.heap) (hX : va_X b L xs s s.heap) (hbl : b < s.heap.size) (hbA : ¬ A b) (N x0 : Nat) (Rel : Cz → Mz → Prop) (hK0 : ∀ κ μ, Rel κ μ → isK κ x0 11 = true) (S : Sm_seed N x0 Rel) (hR : Rel κ μ) {x3 : Int32} {t : Nat} (hx3 : x3 = nI t) (ht : t + 6 ≤ L) (hL : L ≤ 3072) (hce : ce + 17 ≤ 600000) (hsl : sl + 1608 ≤ 7302250) (kk : ∀ (κ1 : Cz) (μ1 : Mz), Rel κ1 μ1 → JL p l e s m b below meth c D θ η A (ce + 17) (sl + 1608) κ1 μ1 [(0, .ref b), (1, .ref x0), (2, .ref η.1), (3, .int x3)] [] 1210) : JL p l e s m b below meth c D θ η A ce sl κ μ [(0, .ref b), (1, .ref x0), (2, .ref η.1), (3, .int x3)] [] 1065 := by
  obtain ⟨r, κ1, μ1, e1, e2, hR1⟩ := S κ μ (xs (x3 + 1).toNatClampNeg) hR
  refine j_aload_n K 1 dL_1065 rfl rfl ?_
  refine j_aload_n K 0 dL_1066 rfl rfl ?_
  refine j_iload_n K 3 dL_1067 rfl rfl ?_
  refine j_iconst (v := 1) K dL_1068 (by decide) ?_
  refine j_iadd K dL_1069 ?_
  refine l_sld K hX hbl hbA (l_in1 hx3 ht hL) dL_1070 ?_
  refine lcallF K hN hSC (c_ErrataRow_seed_ok l D θ N x0 (xs (x3 + 1).toNatClampNeg) κ _ e1) lG_143 eh_ErrataRow_seed (by decide) (by decide) rfl (hK0 κ μ hR) rfl (st := []) (Nat.le_of_ble_eq_true rfl) rfl dL_1071 ⟨by simp only [room_1]; omega, by simp only [room_1]; omega⟩ ?_
  refine j_aload_n K 2 dL_1074 rfl rfl ?_
  refine j_aload_n K 0 dL_1075 rfl rfl ?_
  refine j_iload_n K 3 dL_1076 rfl rfl ?_
  refine j_iconst (v := 1) K dL_1077 (by decide) ?_
  refine j_iadd K dL_1078 ?_
  refine l_sld K hX hbl hbA (l_in1 hx3 ht hL) dL_1079 ?_
  refine lcallM K (c12_seed_ok l D η N (xs (x3 + 1).toNatClampNeg) μ _ e2) lG_146 lh_seed (by decide) (by decide) rfl rfl (st := [.int r]) (Nat.le_of_ble_eq_true rfl) rfl dL_1080 ⟨by simp only [room_1]; omega, by simp only [room_1]; omega⟩ ?_
  refine j_icmp_eq (tgt := 1210) K dL_1083 (by decide) (fun q => ?_) (fun q => absurd rfl q)
  exact l_widen (by omega) (by omega) (kk κ1 μ1 hR1)
set_option maxHeartbeats 1000000 in
set_option maxRecDepth 100000 in
theorem law_slips {p : Program} {l : Launch} {e : Env} {s : State} {m : MethodId} {b L : Nat} {xs : Nat → Int32} {below : List Frame} {meth : Method} {c : Code} {D : va_G} {θ : Tc} {η : Th} {ad : Ad} {A : Nat → Prop} {ce sl : Nat} {κ : Cz} {μ : Mz} (K : KL p s m b c D θ η A) (hN : NX s) (hSC : SC ad A s s.heap) (hX : va_X b L xs s s.heap) (hbl : b < s.heap.size) (hbA : ¬ A b) (N x0 : Nat) (Rel : Cz → Mz → Prop) (hK0 : ∀ κ μ, Rel κ μ → isK κ x0 11 = true) (S : Sm_slips N x0 Rel) (hR : Rel κ μ) {x3 : Int32} {t : Nat} (hx3 : x3 = nI t) (ht : t + 6 ≤ L) (hL : L ≤ 3072) (hce : ce + 17 ≤ 600000) (hsl : sl + 1608 ≤ 7302250) (kk : ∀ (κ1 : Cz) (μ1 : Mz), Rel κ1 μ1 → JL p l e s m b below meth c D θ η A (ce + 17) (sl + 1608) κ1 μ1 [(0, .ref b), (1, .ref x0), (2, .ref η.1), (3, .int x3)] [] 1210) : JL p l e s m b below meth c D θ η A ce sl κ μ [(0, .ref b), (1, .ref x0), (2, .ref η.1), (3, .int x3)] [] 1088 := by
  obtain ⟨r, κ1, μ1, e1, e2, hR1⟩ := S κ μ (xs (x3 + 1).toNatClampNeg) (xs (x3 + 2).toNatClampNeg) (xs (x3 + 3).toNatClampNeg) (xs (x3 + 4).toNatClampNeg) hR
  refine j_aload_n K 1 dL_1088 rfl rfl ?_
  refine j_aload_n K 0 dL_1089 rfl rfl ?_
  refine j_iload_n K 3 dL_1090 rfl rfl ?_
  refine j_iconst (v := 1) K dL_1091 (by decide) ?_
  refine j_iadd K dL_1092 ?_
  refine l_sld K hX hbl hbA (l_in1 hx3 ht hL) dL_1093 ?_
  refine j_aload_n K 0 dL_1094 rfl rfl ?_
  refine j_iload_n K 3 dL_1095 rfl rfl ?_
  refine j_iconst (v := 2) K dL_1096 (by decide) ?_
  refine j_iadd K dL_1097 ?_
  refine l_sld K hX hbl hbA (l_in2 hx3 ht hL) dL_1098 ?_
  refine j_aload_n K 0 dL_1099 rfl rfl ?_
  refine j_iload_n K 3 dL_1100 rfl rfl ?_
  refine j_iconst (v := 3) K dL_1101 (by decide) ?_
  refine j_iadd K dL_1102 ?_
  refine l_sld K hX hbl hbA (l_in3 hx3 ht hL) dL_1103 ?_
  refine j_aload_n K 0 dL_1104 rfl rfl ?_
  refine j_iload_n K 3 dL_1105 rfl rfl ?_
  refine j_iconst (v := 4) K dL_1106 (by decide) ?_
  refine j_iadd K dL_1107 ?_
  refine l_sld K hX hbl hbA (l_in4 hx3 ht hL) dL_1108 ?_
  refine lcallF K hN hSC (c_ErrataRow_slips_ok l D θ N x0 (xs (x3 + 1).toNatClampNeg) (xs (x3 + 2).toNatClampNeg) (xs (x3 + 3).toNatClampNeg) (xs (x3 + 4).toNatClampNeg) κ _ e1) lG_147 eh_ErrataRow_slips (by decide) (by decide) rfl (hK0 κ μ hR) rfl (st := []) (Nat.le_of_ble_eq_true rfl) rfl dL_1109 ⟨by simp only [room_1]; omega, by simp only [room_1]; omega⟩ ?_
  refine j_aload_n K 2 dL_1112 rfl rfl ?_
  refine j_aload_n K 0 dL_1113 rfl rfl ?_
  refine j_iload_n K 3 dL_1114 rfl rfl ?_
  refine j_iconst (v := 1) K dL_1115 (by decide) ?_
  refine j_iadd K dL_1116 ?_
  refine l_sld K hX hbl hbA (l_in1 hx3 ht hL) dL_1117 ?_
  refine j_aload_n K 0 dL_1118 rfl rfl ?_
  refine j_iload_n K 3 dL_1119 rfl rfl ?_
  refine j_iconst (v := 2) K dL_1120 (by decide) ?_
  refine j_iadd K dL_1121 ?_
  refine l_sld K hX hbl hbA (l_in2 hx3 ht hL) dL_1122 ?_
  refine j_aload_n K 0 dL_1123 rfl rfl ?_
  refine j_iload_n K 3 dL_1124 rfl rfl ?_
  refine j_iconst (v := 3) K dL_1125 (by decide) ?_
  refine j_iadd K dL_1126 ?_
  refine l_sld K hX hbl hbA (l_in3 hx3 ht hL) dL_1127 ?_
  refine j_aload_n K 0 dL_1128 rfl rfl ?_
  refine j_iload_n K 3 dL_1129 rfl rfl ?_
  refine j_iconst (v := 4) K dL_1130 (by decide) ?_
  refine j_iadd K dL_1131 ?_
  refine l_sld K hX hbl hbA (l_in4 hx3 ht hL) dL_1132 ?_
  refine lcallM K (c12_slips_ok l D η N (xs (x3 + 1).toNatClampNeg) (xs (x3 + 2).toNatClampNeg) (xs (x3 + 3).toNatClampNeg) (xs (x3 + 4).toNatClampNeg) μ _ e2) lG_150 lh_slips (by decide) (by decide) rfl rfl (st := [.int r]) (Nat.le_of_ble_eq_true rfl) rfl dL_1133 ⟨by simp only [room_1]; omega, by simp only [room_1]; omega⟩ ?_
  refine j_icmp_eq (tgt := 1210) K dL_1136 (by decide) (fun q => ?_) (fun q => absurd rfl q)
  exact l_widen (by omega) (by omega) (kk κ1 μ1 hR1)
set_option maxHeartbeats 1000000 in
set_option maxRecDepth 100000 in
theorem law_count {p : Program} {l : Launch} {e : Env} {s : State} {m : MethodId} {b L : Nat} {xs : Nat → Int32} {below : List Frame} {meth : Method} {c : Code} {D : va_G} {θ : Tc} {η : Th} {ad : Ad} {A : Nat → Prop} {ce sl : Nat} {κ : Cz} {μ : Mz} (K : KL p s m b c D θ η A) (hN : NX s) (hSC : SC ad A s s.heap) (hX : va_X b L xs s s.heap) (hbl : b < s.heap.size) (hbA : ¬ A b) (N x0 : Nat) (Rel : Cz → Mz → Prop) (hK0 : ∀ κ μ, Rel κ μ → isK κ x0 11 = true) (S : Sm_count N x0 Rel) (hR : Rel κ μ) {x3 : Int32} {t : Nat} (hx3 : x3 = nI t) (ht : t + 6 ≤ L) (hL : L ≤ 3072) (hce : ce + 17 ≤ 600000) (hsl : sl + 1608 ≤ 7302250) (kk : ∀ (κ1 : Cz) (μ1 : Mz), Rel κ1 μ1 → JL p l e s m b below meth c D θ η A (ce + 17) (sl + 1608) κ1 μ1 [(0, .ref b), (1, .ref x0), (2, .ref η.1), (3, .int x3)] [] 1210) : JL p l e s m b below meth c D θ η A ce sl κ μ [(0, .ref b), (1, .ref x0), (2, .ref η.1), (3, .int x3)] [] 1141 := by
  obtain ⟨r, κ1, μ1, e1, e2, hR1⟩ := S κ μ (xs (x3 + 1).toNatClampNeg) hR
  refine j_aload_n K 1 dL_1141 rfl rfl ?_
  refine j_aload_n K 0 dL_1142 rfl rfl ?_
  refine j_iload_n K 3 dL_1143 rfl rfl ?_
  refine j_iconst (v := 1) K dL_1144 (by decide) ?_
  refine j_iadd K dL_1145 ?_
  refine l_sld K hX hbl hbA (l_in1 hx3 ht hL) dL_1146 ?_
  refine lcallF K hN hSC (c_ErrataRow_count_ok l D θ N x0 (xs (x3 + 1).toNatClampNeg) κ _ e1) lG_151 eh_ErrataRow_count (by decide) (by decide) rfl (hK0 κ μ hR) rfl (st := []) (Nat.le_of_ble_eq_true rfl) rfl dL_1147 ⟨by simp only [room_1]; omega, by simp only [room_1]; omega⟩ ?_
  refine j_aload_n K 2 dL_1150 rfl rfl ?_
  refine j_aload_n K 0 dL_1151 rfl rfl ?_
  refine j_iload_n K 3 dL_1152 rfl rfl ?_
  refine j_iconst (v := 1) K dL_1153 (by decide) ?_
  refine j_iadd K dL_1154 ?_
  refine l_sld K hX hbl hbA (l_in1 hx3 ht hL) dL_1155 ?_
  refine lcallM K (c12_count_ok l D η N (xs (x3 + 1).toNatClampNeg) μ _ e2) lG_154 lh_count (by decide) (by decide) rfl rfl (st := [.int r]) (Nat.le_of_ble_eq_true rfl) rfl dL_1156 ⟨by simp only [room_1]; omega, by simp only [room_1]; omega⟩ ?_
  refine j_icmp_eq (tgt := 1210) K dL_1159 (by decide) (fun q => ?_) (fun q => absurd rfl q)
  exact l_widen (by omega) (by omega) (kk κ1 μ1 hR1)
set_option maxHeartbeats 1000000 in
set_option maxRecDepth 100000 in
theorem law_image {p : Program} {l : Launch} {e : Env} {s : State} {m : MethodId} {b L : Nat} {xs : Nat → Int32} {below : List Frame} {meth : Method} {c : Code} {D : va_G} {θ : Tc} {η : Th} {ad : Ad} {A : Nat → Prop} {ce sl : Nat} {κ : Cz} {μ : Mz} (K : KL p s m b c D θ η A) (hN : NX s) (hSC : SC ad A s s.heap) (hX : va_X b L xs s s.heap) (hbl : b < s.heap.size) (hbA : ¬ A b) (N x0 : Nat) (Rel : Cz → Mz → Prop) (hK0 : ∀ κ μ, Rel κ μ → isK κ x0 11 = true) (S : Sm_image N x0 Rel) (hR : Rel κ μ) {x3 : Int32} {t : Nat} (hx3 : x3 = nI t) (ht : t + 6 ≤ L) (hL : L ≤ 3072) (hce : ce + 17 ≤ 600000) (hsl : sl + 1608 ≤ 7302250) (kk : ∀ (κ1 : Cz) (μ1 : Mz), Rel κ1 μ1 → JL p l e s m b below meth c D θ η A (ce + 17) (sl + 1608) κ1 μ1 [(0, .ref b), (1, .ref x0), (2, .ref η.1), (3, .int x3)] [] 1210) : JL p l e s m b below meth c D θ η A ce sl κ μ [(0, .ref b), (1, .ref x0), (2, .ref η.1), (3, .int x3)] [] 1164 := by
  obtain ⟨r, μ1, e2, e1⟩ := S κ μ (xs (x3 + 1).toNatClampNeg) hR
  refine j_aload_n K 1 dL_1164 rfl rfl ?_
  refine j_aload_n K 0 dL_1165 rfl rfl ?_
  refine j_iload_n K 3 dL_1166 rfl rfl ?_
  refine j_iconst (v := 1) K dL_1167 (by decide) ?_
  refine j_iadd K dL_1168 ?_
  refine l_sld K hX hbl hbA (l_in1 hx3 ht hL) dL_1169 ?_
  refine lcallW K hN hSC (c_ErrataRow_image_wp l D θ N x0 (xs (x3 + 1).toNatClampNeg) κ _ e1) lG_155 eh_ErrataRow_image (by decide) (by decide) rfl (hK0 κ μ hR) rfl (st := []) (Nat.le_of_ble_eq_true rfl) rfl dL_1170 ⟨by simp only [room_1]; omega, by simp only [room_1]; omega⟩ ?_
  intro r1 κ1 hw
  obtain ⟨rfl, hR1⟩ := hw
  refine j_aload_n K 2 dL_1173 rfl rfl ?_
  refine j_aload_n K 0 dL_1174 rfl rfl ?_
  refine j_iload_n K 3 dL_1175 rfl rfl ?_
  refine j_iconst (v := 1) K dL_1176 (by decide) ?_
  refine j_iadd K dL_1177 ?_
  refine l_sld K hX hbl hbA (l_in1 hx3 ht hL) dL_1178 ?_
  refine lcallM K (c12_image_ok l D η N (xs (x3 + 1).toNatClampNeg) μ _ e2) lG_158 lh_image (by decide) (by decide) rfl rfl (st := [.int r1]) (Nat.le_of_ble_eq_true rfl) rfl dL_1179 ⟨by simp only [room_1]; omega, by simp only [room_1]; omega⟩ ?_
  refine j_icmp_eq (tgt := 1210) K dL_1182 (by decide) (fun q => ?_) (fun q => absurd rfl q)
  exact l_widen (by omega) (by omega) (kk κ1 μ1 hR1)
set_option maxHeartbeats 1000000 in
set_option maxRecDepth 100000 in
theorem law_back {p : Program} {l : Launch} {e : Env} {s : State} {m : MethodId} {b L : Nat} {xs : Nat → Int32} {below : List Frame} {meth : Method} {c : Code} {D : va_G} {θ : Tc} {η : Th} {ad : Ad} {A : Nat → Prop} {ce sl : Nat} {κ : Cz} {μ : Mz} (K : KL p s m b c D θ η A) (hN : NX s) (hSC : SC ad A s s.heap) (hX : va_X b L xs s s.heap) (hbl : b < s.heap.size) (hbA : ¬ A b) (N x0 : Nat) (Rel : Cz → Mz → Prop) (hK0 : ∀ κ μ, Rel κ μ → isK κ x0 11 = true) (S : Sm_back N x0 Rel) (hR : Rel κ μ) {x3 : Int32} {t : Nat} (hx3 : x3 = nI t) (ht : t + 6 ≤ L) (hL : L ≤ 3072) (hce : ce + 17 ≤ 600000) (hsl : sl + 1608 ≤ 7302250) (kk : ∀ (κ1 : Cz) (μ1 : Mz), Rel κ1 μ1 → JL p l e s m b below meth c D θ η A (ce + 17) (sl + 1608) κ1 μ1 [(0, .ref b), (1, .ref x0), (2, .ref η.1), (3, .int x3)] [] 1210) : JL p l e s m b below meth c D θ η A ce sl κ μ [(0, .ref b), (1, .ref x0), (2, .ref η.1), (3, .int x3)] [] 1187 := by
  obtain ⟨r, κ1, μ1, e1, e2, hR1⟩ := S κ μ (xs (x3 + 1).toNatClampNeg) hR
  refine j_aload_n K 1 dL_1187 rfl rfl ?_
  refine j_aload_n K 0 dL_1188 rfl rfl ?_
  refine j_iload_n K 3 dL_1189 rfl rfl ?_
  refine j_iconst (v := 1) K dL_1190 (by decide) ?_
  refine j_iadd K dL_1191 ?_
  refine l_sld K hX hbl hbA (l_in1 hx3 ht hL) dL_1192 ?_
  refine lcallF K hN hSC (c_ErrataRow_back_ok l D θ N x0 (xs (x3 + 1).toNatClampNeg) κ _ e1) lG_159 eh_ErrataRow_back (by decide) (by decide) rfl (hK0 κ μ hR) rfl (st := []) (Nat.le_of_ble_eq_true rfl) rfl dL_1193 ⟨by simp only [room_1]; omega, by simp only [room_1]; omega⟩ ?_
  refine j_aload_n K 2 dL_1196 rfl rfl ?_
  refine j_aload_n K 0 dL_1197 rfl rfl ?_
  refine j_iload_n K 3 dL_1198 rfl rfl ?_
  refine j_iconst (v := 1) K dL_1199 (by decide) ?_
  refine j_iadd K dL_1200 ?_
  refine l_sld K hX hbl hbA (l_in1 hx3 ht hL) dL_1201 ?_
  refine lcallM K (c12_back_ok l D η N (xs (x3 + 1).toNatClampNeg) μ _ e2) lG_162 lh_back (by decide) (by decide) rfl rfl (st := [.int r]) (Nat.le_of_ble_eq_true rfl) rfl dL_1202 ⟨by simp only [room_1]; omega, by simp only [room_1]; omega⟩ ?_
  refine j_icmp_eq (tgt := 1210) K dL_1205 (by decide) (fun q => ?_) (fun q => absurd rfl q)
  exact l_widen (by omega) (by omega) (kk κ1 μ1 hR1)
