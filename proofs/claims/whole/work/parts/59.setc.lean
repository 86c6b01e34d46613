/-! calls: a line cut or mended; a line looked at -/
section SLC
theorem cmk_bit {m : Nat} {cu : Nat → Nat} {e : Nat} (he : e < m) : (cmk m cu).testBit e = decide (cu e = 1) := by
  unfold cmk
  rw [mk_bit]
  simp [he]
theorem cmk_lt {m : Nat} (hm : m ≤ 14) (cu : Nat → Nat) : cmk m cu < 2 ^ 14 := Nat.lt_of_lt_of_le (mk_lt _ m) (Nat.pow_le_pow_right (by decide) hm)
theorem nar_bool : ∀ b, b < 2 → vp_nar .boolean (nI b) = nI b := by decide
theorem call_cut {σ τ : St} (hI : Inv σ τ) {N : Nat} (x : Int32) {b : Nat} (hb : b < 2) : Both (some (LT_cut x (nI b) σ)) (M_cut N x (nI b) τ) := by
  have hI0 := hI
  obtain ⟨fr, to, pr, dm, co, dg, cu, n, m, root, dep, lod, rf, rt, wy, ha, hx, hm⟩ := hI
  have hm14 := ha.1.2.2.1
  have hcl := cmk_lt hm14 cu
  unfold LT_cut M_cut GT_forget Net_hasLine Net_isCut M_isLine lt
  rw [hx.1.2.2.1, hm.1.2.1, hx.2.2.1]
  rcases has_ix (show m < 2 ^ 30 by omega) x with ⟨z1, z2, -⟩ | ⟨i, hi, e, z1, z2⟩
  · rw [z1, z2, if_pos rfl, if_pos rfl]
    exact ⟨_, _, _, rfl, rfl, hI0⟩
  · rw [z1, z2, if_neg (show ¬ (1 : Int32) = 0 by decide), if_neg (show ¬ (1 : Int32) = 0 by decide)]
    subst e
    have gi : inb (nI i) 14 = true := inb_nI (by omega) (by decide)
    have hc1 := ha.2.2.1 i hi
    have ec : (if nI (cmk m cu) >>> (nI i &&& 31) &&& 1 = 0 then (0 : Int32) else 1) = nI (cu i) := by
      by_cases q : cu i = 1
      · rw [if_neg (fun y => ?_), q]; rfl
        have := (bit0_nI (by omega) (by omega)).mp y
        rw [cmk_bit hi, q] at this
        cases this
      · have q0 : cu i = 0 := by omega
        rw [if_pos ((bit0_nI (by omega) (by omega)).mpr (by rw [cmk_bit hi, q0]; rfl)), q0]; rfl
    rw [ec, grd_t gi, nI_clamp (by omega), hm.1.2.2.2.2.1 i (by omega)]
    by_cases q : nI (cu i) = nI b
    · rw [if_pos q, if_pos q]
      exact ⟨_, _, _, rfl, rfl, hI0⟩
    · have q' : cu i ≠ b := fun y => q (by rw [y])
      rw [if_neg q, if_neg q, grd_t gi, nar_bool b hb, shl1 i (by omega), fb_xorI]
      have ek : cmk m cu ^^^ 2 ^ i = cmk m (va_up cu i b) := by
        apply Nat.eq_of_testBit_eq
        intro j
        unfold cmk
        rw [Nat.testBit_xor, mk_bit, mk_bit, Nat.testBit_two_pow, show va_up cu i b j = if j = i then b else cu j from rfl]
        by_cases e : j = i
        · subst e
          simp only [hi, decide_true, Bool.true_and, if_true]
          by_cases w : cu j = 1
          · simp [w, show ¬ b = 1 by omega]
          · simp [w, show b = 1 by omega]
        · simp [e, Ne.symm e]
      rw [ek]
      obtain ⟨y0, y1, y2, ye, yc, yv⟩ := hm.1
      have agl : AgL σ (si (si σ 4 (nI (cmk m (va_up cu i b)))) 20 0) → True := fun _ => trivial
      refine ⟨_, _, _, rfl, rfl, fr, to, pr, dm, co, dg, va_up cu i b, n, m, root, dep, lod, rf, rt, wy, ⟨ha.1, ha.2.1, fun e he => ?_, ha.2.2.2.1, fun e he => ?_⟩, ⟨hx.1, hx.2.1, rfl, hx.2.2.2.1, Or.inl rfl⟩, ⟨y0, y1, y2, ye, fun e he => ?_, yv⟩, hm.2.1, Or.inl rfl⟩
      · by_cases w : e = i
        · rw [w, up_s]; omega
        · rw [up_n _ _ w]; exact ha.2.2.1 e he
      · rw [up_n _ _ (by omega)]; exact ha.2.2.2.2 e he
      · show upd (τ.2.1 4) i (nI b) e = _
        by_cases w : e = i
        · rw [w, upd_s, up_s]
        · rw [upd_n _ _ w, up_n _ _ w]; exact yc e he
theorem call_look {σ τ : St} (hI : Inv σ τ) {N : Nat} (x y : Int32) : ∃ r, LT_look N x y σ = some r ∧ M_look N x y τ = some r := by
  obtain ⟨fr, to, pr, dm, co, dg, cu, n, m, root, dep, lod, rf, rt, wy, ha, hx, hm⟩ := hI
  have hm14 := ha.1.2.2.1
  have hcl := cmk_lt hm14 cu
  unfold LT_look M_look Net_hasLine M_isLine
  rw [hx.1.2.2.1, hm.1.2.1, hx.2.2.1]
  rcases has_ix (show m < 2 ^ 30 by omega) x with ⟨z1, z2, -⟩ | ⟨i, hi, e, z1, z2⟩
  · rw [z1, z2, if_pos rfl, if_pos rfl]
    exact ⟨_, rfl, rfl⟩
  · rw [z1, z2, if_neg (show ¬ (1 : Int32) = 0 by decide), if_neg (show ¬ (1 : Int32) = 0 by decide)]
    subst e
    have gi : inb (nI i) 14 = true := inb_nI (by omega) (by decide)
    obtain ⟨x0, x1, x2, xe, xv⟩ := hx.1
    obtain ⟨y0, y1, y2, ye, yc, yv⟩ := hm.1
    obtain ⟨p1, p2, p3⟩ := xe i hi
    obtain ⟨q1, q2, q3, q4⟩ := ye i hi
    have hc1 := ha.2.2.1 i hi
    have hc2 := ha.2.2.2.1 i hi
    rw [grd_t gi, grd_t gi, grd_t gi, grd_t gi, grd_t gi, grd_t gi, grd_t gi, grd_t gi, nI_clamp (by omega), p1, p2, p3, q1, q2, q3, q4]
    by_cases h0 : y = 0
    · rw [if_pos h0, if_pos h0]; exact ⟨_, rfl, rfl⟩
    rw [if_neg h0, if_neg h0]
    by_cases h1 : y = 1
    · rw [if_pos h1, if_pos h1]; exact ⟨_, rfl, rfl⟩
    rw [if_neg h1, if_neg h1]
    by_cases h2 : y = 2
    · rw [if_pos h2, if_pos h2]; exact ⟨_, rfl, rfl⟩
    rw [if_neg h2, if_neg h2]
    by_cases h3 : y = 3
    · rw [if_pos h3, if_pos h3, hx.2.1.1, bit_nI (Nat.lt_of_lt_of_le (mk_lt _ m) (Nat.pow_le_pow_right (by decide) (by omega))) (by omega), mk_bit]
      refine ⟨_, rfl, ?_⟩
      by_cases w : co i = 1
      · simp [w, hi]
      · simp [show co i = 0 by omega]
    rw [if_neg h3, if_neg h3]
    by_cases h4 : y = 4
    · rw [if_pos h4, if_pos h4, bit_nI (by omega) (by omega), cmk_bit hi, yc i (by omega)]
      refine ⟨_, rfl, ?_⟩
      by_cases w : cu i = 1
      · rw [w]; rfl
      · rw [show cu i = 0 by omega]; rfl
    rw [if_neg h4, if_neg h4]
    exact ⟨_, rfl, rfl⟩
end SLC
