/-! two sets of one size that differ in two lines: one line is swapped for another -/
theorem ct_point {a n : Nat} (h : a < n) : fb_ct (fun e => decide (e = a)) n = 1 := by
  have h0 : fb_ct (fun _ => false) n = 0 := fb_ct_zero.mpr (fun _ _ => rfl)
  have := fb_ct_more (p := fun _ => false) (q := fun e => decide (e = a)) h rfl (fun k _ => by simp)
  omega
theorem swap_of {x y : Nat} (hx : x < 2 ^ 14) (hy : y < 2 ^ 14) (hp : pck 14 x = pck 14 y) (h2 : pck 14 (x ^^^ y) = 2) : ∃ a b, a < 14 ∧ b < 14 ∧ x.testBit a = true ∧ x.testBit b = false ∧ y = (x ^^^ 2 ^ a) ||| 2 ^ b := by
  have s1 : pck 14 x = fb_ct (fun e => x.testBit e && y.testBit e) 14 + fb_ct (fun e => x.testBit e && !y.testBit e) 14 := by
    rw [← fb_ct_or]
    · unfold pck
      refine fb_ct_cong (fun e _ => ?_)
      cases x.testBit e <;> cases y.testBit e <;> rfl
    · intro e _ h
      cases h1 : x.testBit e <;> cases h2 : y.testBit e <;> simp_all
  have s2 : pck 14 y = fb_ct (fun e => x.testBit e && y.testBit e) 14 + fb_ct (fun e => y.testBit e && !x.testBit e) 14 := by
    rw [← fb_ct_or]
    · unfold pck
      refine fb_ct_cong (fun e _ => ?_)
      cases x.testBit e <;> cases y.testBit e <;> rfl
    · intro e _ h
      cases h1 : x.testBit e <;> cases h2 : y.testBit e <;> simp_all
  have s3 : pck 14 (x ^^^ y) = fb_ct (fun e => x.testBit e && !y.testBit e) 14 + fb_ct (fun e => y.testBit e && !x.testBit e) 14 := by
    rw [← fb_ct_or]
    · unfold pck
      refine fb_ct_cong (fun e _ => ?_)
      rw [Nat.testBit_xor]
      cases x.testBit e <;> cases y.testBit e <;> rfl
    · intro e _ h
      cases h1 : x.testBit e <;> cases h2 : y.testBit e <;> simp_all
  have o1 : fb_ct (fun e => x.testBit e && !y.testBit e) 14 = 1 := by omega
  have o2 : fb_ct (fun e => y.testBit e && !x.testBit e) 14 = 1 := by omega
  obtain ⟨a, ha, pa⟩ := fb_ct_pos.mp (show 0 < fb_ct (fun e => x.testBit e && !y.testBit e) 14 by omega)
  obtain ⟨b, hb, pb⟩ := fb_ct_pos.mp (show 0 < fb_ct (fun e => y.testBit e && !x.testBit e) 14 by omega)
  have pa' : x.testBit a = true ∧ y.testBit a = false := by simpa using pa
  have pb' : y.testBit b = true ∧ x.testBit b = false := by simpa using pb
  refine ⟨a, b, ha, hb, pa'.1, pb'.2, ?_⟩
  apply Nat.eq_of_testBit_eq
  intro e
  rw [Nat.testBit_or, Nat.testBit_xor, Nat.testBit_two_pow, Nat.testBit_two_pow]
  by_cases he : e < 14
  · by_cases z1 : e = a
    · have hab : ¬ b = a := fun w => by rw [w, pa'.2] at pb'; cases pb'.1
      rw [z1, pa'.2, pa'.1]
      simp [hab]
    · by_cases z2 : e = b
      · rw [z2, pb'.1]; simp
      · have : x.testBit e = y.testBit e := by
          cases h1 : x.testBit e <;> cases h2 : y.testBit e
          · rfl
          · exact absurd (fb_ct_one o2 he hb (by rw [h1, h2]; rfl) pb) z2
          · exact absurd (fb_ct_one o1 he ha (by rw [h1, h2]; rfl) pa) z1
          · rfl
        rw [this]
        simp [Ne.symm z1, Ne.symm z2]
  · have b1 : x.testBit e = false := Nat.testBit_lt_two_pow (Nat.lt_of_lt_of_le hx (Nat.pow_le_pow_right (by decide) (by omega)))
    have b2 : y.testBit e = false := Nat.testBit_lt_two_pow (Nat.lt_of_lt_of_le hy (Nat.pow_le_pow_right (by decide) (by omega)))
    rw [b1, b2]
    simp [show ¬ a = e by omega, show ¬ b = e by omega]
theorem swap_two {x a b : Nat} (ha : a < 14) (hb : b < 14) (h1 : x.testBit a = true) (h2 : x.testBit b = false) : pck 14 (x ^^^ ((x ^^^ 2 ^ a) ||| 2 ^ b)) = 2 := by
  have hab : a ≠ b := fun w => by rw [w, h2] at h1; cases h1
  have e : pck 14 (x ^^^ ((x ^^^ 2 ^ a) ||| 2 ^ b)) = fb_ct (fun e => decide (e = a) || decide (e = b)) 14 := by
    unfold pck
    refine fb_ct_cong (fun e _ => ?_)
    rw [Nat.testBit_xor, Nat.testBit_or, Nat.testBit_xor, Nat.testBit_two_pow, Nat.testBit_two_pow]
    by_cases z1 : e = a
    · subst z1
      simp [h1, Ne.symm hab]
    · by_cases z2 : e = b
      · subst z2
        simp [h2, hab]
      · simp [z1, z2, Ne.symm z1, Ne.symm z2]
  rw [e, fb_ct_or, ct_point ha, ct_point hb]
  intro k _ h
  simp only [decide_eq_true_eq] at h
  omega
