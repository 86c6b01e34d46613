/-! a line more, a line drawn together: the sum of both -/
def wsy (w : Nat → Nat → Rat) (i j : Nat) : Rat := if i < j then w i j else w j i
def sk (b i : Nat) : Nat := if i < b then i else i + 1
def cn (a b : Nat) (w : Nat → Nat → Rat) : Nat → Nat → Rat := fun i j => w (sk b i) (sk b j) + (if sk b i = a then wsy w b (sk b j) else 0) + (if sk b j = a then wsy w (sk b i) b else 0)
theorem sk_lt {b i j : Nat} (h : i < j) : sk b i < sk b j := by unfold sk; split <;> split <;> omega
theorem sk_ne (b i : Nat) : sk b i ≠ b := by unfold sk; split <;> omega
theorem sk_le {b i n : Nat} (h : i ≤ n) : sk b i ≤ n + 1 := by unfold sk; split <;> omega
theorem rs_skip (f : Nat → Rat) (b : Nat) : ∀ n, b ≤ n → rs f (n + 1) = rs (fun i => f (sk b i)) n + f b := by
  intro n
  induction n with
  | zero =>
    intro h
    have e : b = 0 := by omega
    subst e
    simp only [rs]
  | succ n ih =>
    intro h
    rcases Nat.lt_or_ge n b with q | q
    · have e : b = n + 1 := by omega
      subst e
      have : rs (fun i => f (sk (n + 1) i)) (n + 1) = rs f (n + 1) := rs_cong (fun i hi => by unfold sk; rw [if_pos hi])
      rw [this]; rfl
    · have h1 := ih q
      show rs f (n + 1) + f (n + 1) = (rs (fun i => f (sk b i)) n + f (sk b n)) + f b
      rw [h1]
      have : sk b n = n + 1 := by unfold sk; rw [if_neg (by omega)]
      rw [this]; grind
theorem cn_pos {n a b : Nat} {w : Nat → Nat → Rat} (h : wpos (n + 1) w) (hb : b ≤ n + 1) : wpos n (cn a b w) := by
  intro i j hij hj
  unfold cn
  have h1 := h (sk b i) (sk b j) (sk_lt hij) (sk_le hj)
  have p : ∀ x y, x ≠ y → x ≤ n + 1 → y ≤ n + 1 → 0 < wsy w x y := by
    intro x y hxy hx hy
    unfold wsy
    split
    · exact h x y (by assumption) hy
    · exact h y x (by omega) hx
  have h2 := p b (sk b j) (Ne.symm (sk_ne b j)) hb (sk_le hj)
  have h3 := p (sk b i) b (sk_ne b i) (sk_le (by omega)) hb
  split <;> split <;> grind
theorem EE_dc : ∀ (n : Nat) (w : Nat → Nat → Rat) (a b : Nat) (t : Rat), wpos n w → a < b → b ≤ n → 0 ≤ t → EE n (fun i j => w i j + if i = a ∧ j = b then t else 0) = EE n w + t * EE (n - 1) (cn a b w) := by
  intro n
  induction n with
  | zero => intro w a b t _ h1 h2; exact absurd h2 (by omega)
  | succ n ih =>
    intro w a b t hp hab hb ht
    have hd0 := ed_pos hp
    rcases Nat.lt_or_ge b (n + 1) with q | q
    · obtain ⟨k, rfl⟩ : ∃ k, n = k + 1 := ⟨n - 1, by omega⟩
      have e1 : ed (k + 1) (fun i j => w i j + if i = a ∧ j = b then t else 0) = ed (k + 1) w := rs_cong (fun i hi => by
        show w i (k + 1 + 1) + (if i = a ∧ k + 1 + 1 = b then t else 0) = w i (k + 1 + 1)
        rw [if_neg (by omega)]; grind)
      have e2 : EE (k + 1) (el (k + 1) (fun i j => w i j + if i = a ∧ j = b then t else 0)) = EE (k + 1) (fun i j => el (k + 1) w i j + if i = a ∧ j = b then t else 0) := EE_cong _ (fun i j hij hj => by
        unfold el
        dsimp only
        rw [e1, if_neg (show ¬ (i = a ∧ k + 1 + 1 = b) by omega), if_neg (show ¬ (j = a ∧ k + 1 + 1 = b) by omega)]
        grind)
      have e3 := ih (el (k + 1) w) a b t (el_pos hp) hab (by omega) ht
      have e4 : ed k (cn a b w) = ed (k + 1) w := by
        have s1 : sk b (k + 1) = k + 2 := by unfold sk; rw [if_neg (by omega)]
        have s2 : ed k (cn a b w) = rs (fun i => w (sk b i) (k + 2) + if i = a then w b (k + 2) else 0) (k + 1) := rs_cong (fun i hi => by
          unfold cn
          rw [s1, if_neg (show ¬ k + 2 = a by omega)]
          have s3 : (sk b i = a) ↔ (i = a) := by unfold sk; split <;> omega
          have s4 : wsy w b (k + 2) = w b (k + 2) := by unfold wsy; rw [if_pos (by omega)]
          rw [s4]
          by_cases z : i = a
          · rw [if_pos (s3.mpr z), if_pos z]; grind
          · rw [if_neg (fun y => z (s3.mp y)), if_neg z]; grind)
        rw [s2, rs_add, rs_one, if_pos (by omega)]
        exact (rs_skip (fun i => w i (k + 2)) b (k + 1) (by omega)).symm
      have e5 : EE k (el k (cn a b w)) = EE k (cn a b (el (k + 1) w)) := EE_cong _ (fun i j hij hj => by
        have s1 : sk b (k + 1) = k + 2 := by unfold sk; rw [if_neg (by omega)]
        have s3 : ∀ x, cn a b w x (k + 1) = w (sk b x) (k + 2) + if sk b x = a then w b (k + 2) else 0 := by
          intro x
          unfold cn
          rw [s1, if_neg (show ¬ k + 2 = a by omega)]
          have s4 : wsy w b (k + 2) = w b (k + 2) := by unfold wsy; rw [if_pos (by omega)]
          rw [s4]; grind
        have s5 : ∀ x y, x ≤ k + 1 → y ≤ k + 1 → x ≠ y → wsy (el (k + 1) w) x y = wsy w x y + w x (k + 2) * w y (k + 2) / ed (k + 1) w := by
          intro x y _ _ _
          unfold wsy el
          split
          · rfl
          · grind
        show cn a b w i j + cn a b w i (k + 1) * cn a b w j (k + 1) / ed k (cn a b w) = cn a b (el (k + 1) w) i j
        rw [e4, s3 i, s3 j]
        have s6 : sk b i ≤ k + 1 := sk_le (by omega)
        have s7 : sk b j ≤ k + 1 := sk_le (by omega)
        have s8 := sk_lt (b := b) hij
        unfold cn
        rw [s5 b (sk b j) (by omega) s7 (Ne.symm (sk_ne b j)), s5 (sk b i) b s6 (by omega) (sk_ne b i)]
        have s9 : el (k + 1) w (sk b i) (sk b j) = w (sk b i) (sk b j) + w (sk b i) (k + 2) * w (sk b j) (k + 2) / ed (k + 1) w := rfl
        rw [s9]
        by_cases z1 : sk b i = a
        · have z2 : ¬ sk b j = a := by omega
          rw [if_pos z1, if_pos z1, if_pos z1, if_neg z2, if_neg z2, if_neg z2]
          grind
        · by_cases z2 : sk b j = a
          · rw [if_neg z1, if_neg z1, if_neg z1, if_pos z2, if_pos z2, if_pos z2]
            grind
          · rw [if_neg z1, if_neg z1, if_neg z1, if_neg z2, if_neg z2, if_neg z2]
            grind)
      show ed (k + 1) _ * EE (k + 1) _ = ed (k + 1) w * EE (k + 1) (el (k + 1) w) + t * (ed k (cn a b w) * EE k (el k (cn a b w)))
      rw [e1, e2, e3, e4, e5]
      show _ = _ + t * (_ * EE (k + 1 - 1) _)
      grind
    · have e : b = n + 1 := by omega
      subst e
      have e1 : ed n (fun i j => w i j + if i = a ∧ j = n + 1 then t else 0) = ed n w + t := by
        have s1 : ed n (fun i j => w i j + if i = a ∧ j = n + 1 then t else 0) = rs (fun i => w i (n + 1) + if i = a then t else 0) (n + 1) := rs_cong (fun i _ => by
          dsimp only
          by_cases z : i = a
          · rw [if_pos ⟨z, rfl⟩, if_pos z]
          · rw [if_neg (fun y => z y.1), if_neg z])
        rw [s1, rs_add, rs_one, if_pos hab]
        rfl
      have ski : ∀ x, x ≤ n → sk (n + 1) x = x := fun x hx => by unfold sk; rw [if_pos (by omega)]
      have hY : ∀ i j, i < j → j ≤ n → cn a (n + 1) w i j = w i j + (if i = a then w j (n + 1) else 0) + (if j = a then w i (n + 1) else 0) := by
        intro i j hij hj
        unfold cn
        rw [ski i (by omega), ski j hj]
        have s1 : wsy w (n + 1) j = w j (n + 1) := by unfold wsy; rw [if_neg (by omega)]
        have s2 : wsy w i (n + 1) = w i (n + 1) := by unfold wsy; rw [if_pos (by omega)]
        rw [s1, s2]
      have hz : rs (fun i => w i (n + 1) + if i = a then - ed n w else 0) (n + 1) = 0 := by
        rw [rs_add, rs_one, if_pos hab]
        show ed n w + - ed n w = 0
        grind
      have haff := EE_aff n (el n w) (cn a (n + 1) w) (fun i => w i (n + 1) + if i = a then - ed n w else 0) (1 / ed n w) (el_pos hp) (cn_pos hp (Nat.le_refl _)) hz (fun i j hij hj => by
        rw [hY i j hij hj]
        unfold el
        have h0 : ed n w ≠ 0 := by grind
        generalize ed n w = d at *
        by_cases z1 : i = a
        · have z2 : ¬ j = a := by omega
          rw [if_pos z1, if_neg z2]
          simp only [if_pos z1, if_neg z2]
          subst z1
          grind
        · by_cases z2 : j = a
          · simp only [if_pos z2, if_neg z1]
            subst z2
            grind
          · simp only [if_neg z2, if_neg z1]
            grind) (t / (ed n w + t)) (by
          rw [Rat.div_def]
          exact Rat.mul_nonneg ht (by have := Rat.inv_pos.mpr (show 0 < ed n w + t by grind); grind)) (by
          have h2 : ed n w + t ≠ 0 := by grind
          have h3 : 0 < ed n w / (ed n w + t) := rdiv_pos hd0 (by grind)
          have h4 : ed n w / (ed n w + t) + t / (ed n w + t) = 1 := by
            generalize ed n w = d at *
            grind
          grind)
      have e2 : EE n (el n (fun i j => w i j + if i = a ∧ j = n + 1 then t else 0)) = EE n (fun i j => (1 - t / (ed n w + t)) * el n w i j + t / (ed n w + t) * cn a (n + 1) w i j) := EE_cong _ (fun i j hij hj => by
        rw [hY i j hij hj]
        unfold el
        dsimp only
        rw [e1, if_neg (show ¬ (i = a ∧ j = n + 1) by omega)]
        have h0 : ed n w ≠ 0 := by grind
        have h2 : ed n w + t ≠ 0 := by grind
        generalize ed n w = d at *
        by_cases z1 : i = a
        · have z2 : ¬ j = a := by omega
          rw [if_pos ⟨z1, rfl⟩, if_neg (fun y => z2 y.1), if_pos z1, if_neg z2]
          obtain ⟨d2, hd2⟩ : ∃ d2, d2 = d + t := ⟨_, rfl⟩
          rw [← hd2] at h2 ⊢
          grind
        · by_cases z2 : j = a
          · rw [if_neg (fun y => z1 y.1), if_pos ⟨z2, rfl⟩, if_neg z1, if_pos z2]
            obtain ⟨d2, hd2⟩ : ∃ d2, d2 = d + t := ⟨_, rfl⟩
            rw [← hd2] at h2 ⊢
            grind
          · rw [if_neg (fun y => z1 y.1), if_neg (fun y => z2 y.1), if_neg z1, if_neg z2]
            obtain ⟨d2, hd2⟩ : ∃ d2, d2 = d + t := ⟨_, rfl⟩
            rw [← hd2] at h2 ⊢
            grind)
      show ed n _ * EE n _ = ed n w * EE n (el n w) + t * EE n (cn a (n + 1) w)
      rw [e1, e2, haff]
      have h2 : ed n w + t ≠ 0 := by grind
      generalize EE n (el n w) = E0 at *
      generalize EE n (cn a (n + 1) w) = E1 at *
      generalize ed n w = d at *
      clear haff e2 e1 hz
      grind
