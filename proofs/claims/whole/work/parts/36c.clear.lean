/-! the book as it is read: begun anew -/
def flF (f : Nat → Int32) (v : Int32) (i j : Nat) : Int32 := if j < i then v else f j
theorem flF_s (f : Nat → Int32) (v : Int32) (i : Nat) : upd (flF f v i) i v = flF f v (i + 1) := by
  funext j
  rw [upd_at]
  unfold flF
  by_cases h : j = i
  · rw [if_pos h, if_pos (by omega)]
  · rw [if_neg h]
    by_cases h2 : j < i
    · rw [if_pos h2, if_pos (by omega)]
    · rw [if_neg h2, if_neg (by omega)]
theorem sai_sai (a : Nat) (f g : Nat → Int32) (κ : Cz) : sai a f (sai a g κ) = sai a f κ := by
  obtain ⟨k1, k2, k3, k4, k5, k6, k7, k8⟩ := κ
  simp only [sai]
  congr 6
  funext j
  by_cases h : j = a <;> simp [va_up, h]
theorem sai_eta (a : Nat) (κ : Cz) : sai a (ai κ a) κ = κ := by
  obtain ⟨k1, k2, k3, k4, k5, k6, k7, k8⟩ := κ
  simp only [sai, ai]
  congr 6
  funext j
  by_cases h : j = a <;> simp [va_up, h]
theorem c_fill (N : Nat) (hN : 20000 ≤ N) {κ : Cz} {a m : Nat} (hk : isK κ a 20 = true) (hl : ln κ a = m) (hm : m ≤ 1000) (v : Int32) : p_Arrays_fill N a v κ = some (sai a (flF (ai κ a) v m) κ) := by
  have L := upL m (fun n i => b_Arrays_fill_5 N n a v (nI i) (nI m) (sai a (flF (ai κ a) v i) κ) = some (sai a (flF (ai κ a) v m) κ)) (by
    intro n
    rw [b_Arrays_fill_5, if_pos (nI_le (Nat.le_refl m) (by omega))]) (by
    intro n i hi ih
    rw [b_Arrays_fill_5, if_neg (nI_ge hi (by omega)), isK_ai, hk, ck_1, ln_ai, hl, ck_t (inb_nI hi (by omega)), lt_s9, lt_s9, clN (by omega), ai_ai, if_pos rfl, sai_sai, flF_s, nI_1]
    exact ih) N 0 (by omega) (by omega)
  have e : sai a (flF (ai κ a) v 0) κ = κ := by
    have : flF (ai κ a) v 0 = ai κ a := by
      funext j
      unfold flF
      rw [if_neg (by omega)]
    rw [this, sai_eta]
  rw [e, nI_0] at L
  unfold p_Arrays_fill
  rw [hk, ck_1, lt_s9, hl]
  exact L
theorem flF_at (f : Nat → Int32) (v : Int32) {i j : Nat} (h : j < i) : flF f v i j = v := if_pos h
