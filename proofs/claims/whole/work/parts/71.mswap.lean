/-! the reference's swap -/
theorem clr_nI {x a : Nat} (hb : x.testBit a = true) : nI x &&& (nI (2 ^ a) ^^^ (-1)) = nI (x ^^^ 2 ^ a) := by
  refine b_ext (fun i hi => ?_)
  rw [b_and, b_xor, b_m1 i hi, bt_nI hi, bt_nI hi, bt_nI hi, Nat.testBit_xor, Nat.testBit_two_pow]
  by_cases z : a = i
  · subst z
    simp [hb]
  · simp [z]
theorem M_swapped_ok {τ : St} {N x a b : Nat} (hx : x < 2 ^ 14) (ha : a < 14) (hb : b < 14) : M_swapped N (nI x) (nI a) (nI b) τ = some (if x.testBit a = true ∧ x.testBit b = false then τ.2.1 14 ((x ^^^ 2 ^ a) ||| 2 ^ b) else -1) := by
  unfold M_swapped
  rw [M_has_nI (by omega) (by omega), M_has_nI (by omega) (by omega)]
  by_cases h1 : x.testBit a = true
  · rw [if_pos h1, if_neg (by decide)]
    by_cases h2 : x.testBit b = true
    · rw [if_pos h2, if_neg (by decide), if_neg (fun w => by rw [h2] at w; cases w.2)]
    · have h2' : x.testBit b = false := Bool.eq_false_iff.mpr h2
      have hl : (x ^^^ 2 ^ a) ||| 2 ^ b < 2 ^ 14 := Nat.or_lt_two_pow (Nat.xor_lt_two_pow hx (Nat.pow_lt_pow_right (by decide) ha)) (Nat.pow_lt_pow_right (by decide) hb)
      rw [if_neg h2, if_pos rfl, shl1 a (by omega), shl1 b (by omega), clr_nI h1, fa_or, grd_t (inb_nI (by omega) (by decide)), nI_clamp (by omega), if_pos ⟨h1, h2'⟩]
  · rw [if_neg h1, if_pos rfl, if_neg (fun w => h1 w.1)]
