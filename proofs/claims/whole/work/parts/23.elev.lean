/-! rounded weights in whole numbers; levels of nets by the number of lines -/
def ebs (r q : List Nat) (D : Nat) : List Nat := List.zipWith (fun a x => a + (x * r.getD q.length 0 + (D - 1)) / D) q r
def eb : Nat → List (List Nat) → Nat
  | 0, _ => 1
  | _ + 1, [] => 1
  | n + 1, r :: R => r.sum * eb n (R.map (fun q => ebs r q r.sum))
def rowsOf : Nat → (Nat → Nat → Nat) → List (List Nat)
  | 0, _ => []
  | n + 1, W => (List.range (n + 1)).map (fun i => W i (n + 1)) :: rowsOf n W
theorem sum_rs (f : Nat → Nat) : ∀ n, ((((List.range n).map f).sum : Nat) : Rat) = rs (fun i => (f i : Rat)) n := by
  intro n
  induction n with
  | zero => rfl
  | succ n ih => rw [List.range_succ, List.map_append, List.sum_append, Rat.natCast_add, ih]; simp only [List.map_cons, List.map_nil, List.sum_cons, List.sum_nil, Nat.add_zero, rs]
theorem rows_step (W : Nat → Nat → Nat) (n D : Nat) : ∀ m, m ≤ n → (rowsOf m W).map (fun q => ebs ((List.range (n + 1)).map (fun i => W i (n + 1))) q D) = rowsOf m (fun i j => W i j + (W i (n + 1) * W j (n + 1) + (D - 1)) / D) := by
  intro m
  induction m with
  | zero => intro _; rfl
  | succ m ih =>
    intro hm
    simp only [rowsOf, List.map_cons]
    rw [ih (by omega)]
    congr 1
    unfold ebs
    apply List.ext_getElem
    · simp; omega
    · intro i h1 h2
      simp at h1 h2
      simp [List.getD, show m + 1 < n + 1 by omega]
theorem eb_ge (S : Nat) (hS : 0 < S) : ∀ (n : Nat) (W : Nat → Nat → Nat), (∀ i j, i < j → j ≤ n → 0 < W i j) → EE n (fun i j => (W i j : Rat) / (S : Rat)) * (S : Rat) ^ n ≤ ((eb n (rowsOf n W) : Nat) : Rat) := by
  intro n
  have hS0 : (0 : Rat) < (S : Rat) := by
    have : ((0 : Nat) : Rat) < (S : Rat) := Rat.natCast_lt_natCast.mpr hS
    exact this
  induction n with
  | zero => intro W _; unfold EE eb; simp
  | succ n ih =>
    intro W hW
    obtain ⟨D, hD⟩ : ∃ D, D = ((List.range (n + 1)).map (fun i => W i (n + 1))).sum := ⟨_, rfl⟩
    have hDr : (D : Rat) = rs (fun i => (W i (n + 1) : Rat)) (n + 1) := by rw [hD, sum_rs]
    have hD0 : (0 : Rat) < (D : Rat) := by
      rw [hDr]
      refine (rs_pos (fun i hi => ?_)).2 (Nat.succ_pos n)
      have : ((0 : Nat) : Rat) < (W i (n + 1) : Rat) := Rat.natCast_lt_natCast.mpr (hW i (n + 1) hi (Nat.le_refl _))
      exact this
    have hDn : 0 < D := by
      have : ((0 : Nat) : Rat) < (D : Rat) := hD0
      exact Rat.natCast_lt_natCast.mp this
    have hed : ed n (fun i j => (W i j : Rat) / (S : Rat)) = (D : Rat) / (S : Rat) := by
      unfold ed
      have e : rs (fun i => (W i (n + 1) : Rat) / (S : Rat)) (n + 1) = rs (fun i => (1 / (S : Rat)) * (W i (n + 1) : Rat)) (n + 1) := rs_cong (fun i _ => by grind)
      rw [e, rs_mul, ← hDr]
      grind
    have hp : wpos (n + 1) (fun i j => (W i j : Rat) / (S : Rat)) := fun i j hij hj => by
      have : ((0 : Nat) : Rat) < (W i j : Rat) := Rat.natCast_lt_natCast.mpr (hW i j hij hj)
      exact rdiv_pos this hS0
    have hm : EE n (el n (fun i j => (W i j : Rat) / (S : Rat))) ≤ EE n (fun i j => ((W i j + (W i (n + 1) * W j (n + 1) + (D - 1)) / D : Nat) : Rat) / (S : Rat)) := by
      refine EE_mono n (el_pos hp) (fun i j hij hj => ?_)
      unfold el
      dsimp only
      rw [hed]
      have hq : W i (n + 1) * W j (n + 1) ≤ D * ((W i (n + 1) * W j (n + 1) + (D - 1)) / D) := by
        have := Nat.lt_mul_div_succ (W i (n + 1) * W j (n + 1) + (D - 1)) hDn
        rw [Nat.mul_add] at this
        omega
      have hq2 : (W i (n + 1) : Rat) * (W j (n + 1) : Rat) ≤ (D : Rat) * (((W i (n + 1) * W j (n + 1) + (D - 1)) / D : Nat) : Rat) := by
        rw [← Rat.natCast_mul, ← Rat.natCast_mul]
        exact Rat.natCast_le_natCast.mpr hq
      rw [Rat.natCast_add]
      generalize (((W i (n + 1) * W j (n + 1) + (D - 1)) / D : Nat) : Rat) = q at *
      generalize (W i (n + 1) : Rat) = x at *
      generalize (W j (n + 1) : Rat) = y at *
      generalize (W i j : Rat) = a at *
      generalize (D : Rat) = d at *
      generalize (S : Rat) = s at *
      clear hDr hed hp
      have h1 : a / s + x / s * (y / s) / (d / s) = (a + x * y / d) / s := by grind
      have h2 : x * y / d ≤ q := by
        have h3 : x * y * d⁻¹ ≤ d * q * d⁻¹ := Rat.mul_le_mul_of_nonneg_right hq2 (by have := Rat.inv_pos.mpr hD0; grind)
        have h4 : d * q * d⁻¹ = q := by grind
        rw [h4] at h3
        rw [Rat.div_def]; exact h3
      rw [h1]
      have h5 : (a + x * y / d) * s⁻¹ ≤ (a + q) * s⁻¹ := Rat.mul_le_mul_of_nonneg_right (by grind) (by have := Rat.inv_pos.mpr hS0; grind)
      rw [Rat.div_def, Rat.div_def]; exact h5
    have hih := ih (fun i j => W i j + (W i (n + 1) * W j (n + 1) + (D - 1)) / D) (fun i j hij hj => Nat.lt_of_lt_of_le (hW i j hij (by omega)) (Nat.le_add_right _ _))
    have hrow : eb (n + 1) (rowsOf (n + 1) W) = D * eb n (rowsOf n (fun i j => W i j + (W i (n + 1) * W j (n + 1) + (D - 1)) / D)) := by
      simp only [rowsOf, eb]
      rw [← hD, rows_step W n D n (Nat.le_refl _)]
    rw [hrow, Rat.natCast_mul]
    unfold EE
    rw [hed, Rat.pow_succ]
    have hSn : (0 : Rat) < (S : Rat) ^ n := Rat.pow_pos hS0
    have g1 : EE n (el n (fun i j => (W i j : Rat) / (S : Rat))) * (S : Rat) ^ n ≤ ((eb n (rowsOf n (fun i j => W i j + (W i (n + 1) * W j (n + 1) + (D - 1)) / D)) : Nat) : Rat) := Rat.le_trans (Rat.mul_le_mul_of_nonneg_right hm (Rat.le_of_lt hSn)) hih
    generalize EE n (el n (fun i j => (W i j : Rat) / (S : Rat))) = E at *
    generalize ((eb n (rowsOf n (fun i j => W i j + (W i (n + 1) * W j (n + 1) + (D - 1)) / D)) : Nat) : Rat) = F at *
    have g2 : (D : Rat) / (S : Rat) * E * ((S : Rat) ^ n * (S : Rat)) = (E * (S : Rat) ^ n) * (D : Rat) := by
      clear hDr hed hp hih
      generalize (S : Rat) ^ n = sn at *
      generalize (S : Rat) = s at *
      generalize (D : Rat) = d at *
      grind
    rw [g2, Rat.mul_comm (D : Rat) F]
    exact Rat.mul_le_mul_of_nonneg_right g1 (Rat.le_of_lt hD0)
theorem tc_zero : ∀ (L : List (Nat × Nat)) (c : Nat → Nat), tc L c 0 = 0 := by
  intro L
  induction L with
  | nil => intro c; rfl
  | cons e L ih => intro c; unfold tc; rw [ih, ih]; split <;> rfl
theorem fb_sm_shift (f : Nat → Nat) (n : Nat) : fb_sm f (n + 1) = f 0 + fb_sm (fun i => f (i + 1)) n := by
  have h := fb_sm_split f 1 n
  rw [Nat.add_comm 1 n] at h
  rw [h]
  have : fb_sm f 1 = f 0 := by simp [fb_sm]
  rw [this]
  congr 1
  exact fb_sm_cong (fun k _ => by rw [Nat.add_comm])
theorem tc_avg : ∀ (L : List (Nat × Nat)) (c : Nat → Nat) (k : Nat), fb_sm (fun i => tc (L.eraseIdx i) c k) L.length + (k - 1) * tc L c k = L.length * tc L c k := by
  intro L
  induction L with
  | nil =>
    intro c k
    unfold tc
    by_cases h : k = 1
    · simp [h, fb_sm]
    · simp [h, fb_sm]
  | cons e L ih =>
    intro c k
    rw [List.length_cons, fb_sm_shift]
    simp only [List.eraseIdx_cons_zero, List.eraseIdx_cons_succ]
    have i1 := ih c k
    have i2 := ih (mg c e.1 e.2) (k - 1)
    by_cases p : c e.1 = c e.2
    · have hf : fb_sm (fun i => tc (e :: L.eraseIdx i) c k) L.length = fb_sm (fun i => tc (L.eraseIdx i) c k) L.length := fb_sm_cong (fun i _ => by
        conv => lhs; unfold tc
        rw [if_pos p]; rfl)
      rw [hf]
      have ht : tc (e :: L) c k = tc L c k := by
        conv => lhs; unfold tc
        rw [if_pos p]; rfl
      rw [ht, Nat.succ_mul]
      omega
    · have hf : fb_sm (fun i => tc (e :: L.eraseIdx i) c k) L.length = fb_sm (fun i => tc (L.eraseIdx i) c k) L.length + fb_sm (fun i => tc (L.eraseIdx i) (mg c e.1 e.2) (k - 1)) L.length := by
        rw [← fb_sm_add]
        exact fb_sm_cong (fun i _ => by
          conv => lhs; unfold tc
          rw [if_neg p])
      rw [hf]
      have ht : tc (e :: L) c k = tc L c k + tc L (mg c e.1 e.2) (k - 1) := by
        conv => lhs; unfold tc
        rw [if_neg p]
      rw [ht]
      rcases Nat.lt_or_ge k 2 with q | q
      · have hk : k - 1 = 0 := by omega
        rw [hk] at i1 i2 ⊢
        rw [tc_zero] at i2 ⊢
        rw [Nat.succ_mul]
        simp at i1 i2 ⊢
        omega
      · obtain ⟨k', rfl⟩ : ∃ k', k = k' + 2 := ⟨k - 2, by omega⟩
        have e1 : k' + 2 - 1 = k' + 1 := by omega
        have e2 : k' + 1 - 1 = k' := by omega
        rw [e1] at i1 i2 ⊢
        rw [e2] at i2
        generalize tc L c (k' + 2) = T1 at *
        generalize tc L (mg c e.1 e.2) (k' + 1) = T2 at *
        rw [Nat.mul_add, Nat.mul_add, Nat.succ_mul, Nat.succ_mul]
        rw [Nat.succ_mul] at i1 ⊢
        rw [Nat.succ_mul]
        omega
theorem tc_some {L : List (Nat × Nat)} {n t B : Nat} (ht : t ≤ tc L (fun v => v) n) (hB : L.length * B + (n - 1) * t < L.length * t) : ∃ i, i < L.length ∧ B < tc (L.eraseIdx i) (fun v => v) n := by
  refine Classical.byContradiction fun hno => ?_
  have hle : ∀ i, i < L.length → tc (L.eraseIdx i) (fun v => v) n ≤ B := fun i hi => Nat.not_lt.mp (fun z => hno ⟨i, hi, z⟩)
  have h1 := fb_sm_bound (f := fun i => tc (L.eraseIdx i) (fun v => v) n) hle
  have h2 := tc_avg L (fun v => v) n
  generalize tc L (fun v => v) n = T at *
  generalize fb_sm (fun i => tc (L.eraseIdx i) (fun v => v) n) L.length = F at *
  obtain ⟨u, rfl⟩ : ∃ u, T = t + u := ⟨T - t, by omega⟩
  have h3 : (n - 1) * u ≤ L.length * u := by
    rcases Nat.lt_or_ge (n - 1) L.length with q | q
    · exact Nat.mul_le_mul_right u (Nat.le_of_lt q)
    · exfalso
      have : L.length * t ≤ (n - 1) * t := Nat.mul_le_mul_right t q
      omega
  rw [Nat.mul_add, Nat.mul_add] at h2
  omega
