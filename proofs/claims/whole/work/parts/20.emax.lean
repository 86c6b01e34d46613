/-! how many trees a net can have: weights, vertices taken out one by one -/
theorem rdiv_pos {a b : Rat} (ha : 0 < a) (hb : 0 < b) : 0 < a / b := by rw [Rat.div_def]; exact Rat.mul_pos ha (Rat.inv_pos.mpr hb)
def rs (f : Nat → Rat) : Nat → Rat
  | 0 => 0
  | n + 1 => rs f n + f n
theorem rs_cong {f g : Nat → Rat} : ∀ {n : Nat}, (∀ i, i < n → f i = g i) → rs f n = rs g n := by
  intro n
  induction n with
  | zero => intro _; rfl
  | succ n ih => intro h; rw [rs, rs, ih (fun i hi => h i (Nat.lt_succ_of_lt hi)), h n (Nat.lt_succ_self n)]
theorem rs_add (f g : Nat → Rat) : ∀ n, rs (fun i => f i + g i) n = rs f n + rs g n := by
  intro n
  induction n with
  | zero => simp only [rs]; grind
  | succ n ih => simp only [rs]; rw [ih]; grind
theorem rs_mul (c : Rat) (f : Nat → Rat) : ∀ n, rs (fun i => c * f i) n = c * rs f n := by
  intro n
  induction n with
  | zero => simp only [rs]; grind
  | succ n ih => simp only [rs]; rw [ih]; grind
theorem rs_one (t : Rat) (a : Nat) : ∀ n, rs (fun i => if i = a then t else 0) n = if a < n then t else 0 := by
  intro n
  induction n with
  | zero => simp [rs]
  | succ n ih =>
    simp only [rs]
    rw [ih]
    by_cases h : n = a
    · subst h; simp; grind
    · by_cases h2 : a < n
      · have : a < n + 1 := by omega
        simp [h, h2, this]; grind
      · have : ¬ a < n + 1 := by omega
        simp [h, h2, this]; grind
theorem rs_pos {f : Nat → Rat} : ∀ {n : Nat}, (∀ i, i < n → 0 < f i) → 0 ≤ rs f n ∧ (0 < n → 0 < rs f n) := by
  intro n
  induction n with
  | zero => intro _; simp only [rs]; exact ⟨by grind, fun h => absurd h (Nat.lt_irrefl 0)⟩
  | succ n ih =>
    intro h
    have h1 := (ih (fun i hi => h i (Nat.lt_succ_of_lt hi))).1
    have h2 := h n (Nat.lt_succ_self n)
    simp only [rs]
    exact ⟨by grind, fun _ => by grind⟩
/-- the sum of weights at the last vertex -/
def ed (n : Nat) (w : Nat → Nat → Rat) : Rat := rs (fun i => w i (n + 1)) (n + 1)
/-- the last vertex taken out -/
def el (n : Nat) (w : Nat → Nat → Rat) : Nat → Nat → Rat := fun i j => w i j + w i (n + 1) * w j (n + 1) / ed n w
def EE : Nat → (Nat → Nat → Rat) → Rat
  | 0, _ => 1
  | n + 1, w => ed n w * EE n (el n w)
def wpos (n : Nat) (w : Nat → Nat → Rat) : Prop := ∀ i j, i < j → j ≤ n → 0 < w i j
theorem EE_cong : ∀ (n : Nat) {w v : Nat → Nat → Rat}, (∀ i j, i < j → j ≤ n → w i j = v i j) → EE n w = EE n v := by
  intro n
  induction n with
  | zero => intro w v _; rfl
  | succ n ih =>
    intro w v h
    have hd : ed n w = ed n v := rs_cong (fun i hi => h i (n + 1) hi (Nat.le_refl _))
    unfold EE
    rw [hd]
    congr 1
    refine ih (fun i j hij hj => ?_)
    unfold el
    rw [hd, h i j hij (by omega), h i (n + 1) (by omega) (Nat.le_refl _), h j (n + 1) (by omega) (Nat.le_refl _)]
theorem ed_pos {n : Nat} {w : Nat → Nat → Rat} (h : wpos (n + 1) w) : 0 < ed n w := (rs_pos (fun i hi => h i (n + 1) hi (Nat.le_refl _))).2 (Nat.succ_pos n)
theorem el_pos {n : Nat} {w : Nat → Nat → Rat} (h : wpos (n + 1) w) : wpos n (el n w) := by
  intro i j hij hj
  unfold el
  have h1 := h i j hij (by omega)
  have h2 := rdiv_pos (Rat.mul_pos (h i (n + 1) (by omega) (Nat.le_refl _)) (h j (n + 1) (by omega) (Nat.le_refl _))) (ed_pos h)
  grind
theorem EE_pos : ∀ (n : Nat) {w : Nat → Nat → Rat}, wpos n w → 0 < EE n w := by
  intro n
  induction n with
  | zero => intro w _; unfold EE; grind
  | succ n ih => intro w h; unfold EE; exact Rat.mul_pos (ed_pos h) (ih (el_pos h))
/-- along a change of rank one it goes in a straight line -/
theorem EE_aff : ∀ (n : Nat) (w0 w1 : Nat → Nat → Rat) (z : Nat → Rat) (s : Rat), wpos n w0 → wpos n w1 → rs z (n + 1) = 0 → (∀ i j, i < j → j ≤ n → w1 i j = w0 i j - s * z i * z j) → ∀ t : Rat, 0 ≤ t → t ≤ 1 → EE n (fun i j => (1 - t) * w0 i j + t * w1 i j) = (1 - t) * EE n w0 + t * EE n w1 := by
  intro n
  induction n with
  | zero => intro w0 w1 z s _ _ _ _ t _ _; unfold EE; grind
  | succ n ih =>
    intro w0 w1 z s p0 p1 hz hw t t0 t1
    have q0 := ed_pos p0
    have q1 := ed_pos p1
    have hz1 : rs z (n + 1) = - z (n + 1) := by
      have : rs z (n + 1 + 1) = rs z (n + 1) + z (n + 1) := rfl
      grind
    have hd1 : ed n w1 = ed n w0 + s * z (n + 1) * z (n + 1) := by
      have e1 : ed n w1 = rs (fun i => w0 i (n + 1) + (- s * z (n + 1)) * z i) (n + 1) := rs_cong (fun i hi => by rw [hw i (n + 1) hi (Nat.le_refl _)]; grind)
      rw [e1, rs_add, rs_mul, hz1]
      unfold ed
      grind
    have hdt : ed n (fun i j => (1 - t) * w0 i j + t * w1 i j) = (1 - t) * ed n w0 + t * ed n w1 := by
      unfold ed
      rw [rs_add (fun i => (1 - t) * w0 i (n + 1)) (fun i => t * w1 i (n + 1)), rs_mul, rs_mul]
    have qt : 0 < (1 - t) * ed n w0 + t * ed n w1 := by
      rcases (Rat.le_total (a := t) (b := 1 / 2)) with q | q
      · have : 0 < (1 - t) * ed n w0 := Rat.mul_pos (by grind) q0
        have : 0 ≤ t * ed n w1 := Rat.mul_nonneg t0 (by grind)
        grind
      · have : 0 < t * ed n w1 := Rat.mul_pos (by grind) q1
        have : 0 ≤ (1 - t) * ed n w0 := Rat.mul_nonneg (by grind) (by grind)
        grind
    have key : ∀ i j, i < j → j ≤ n → ∀ (r : Rat), 0 < ed n w0 + r * z (n + 1) * z (n + 1) → (w0 i j - r * z i * z j) + (w0 i (n + 1) - r * z i * z (n + 1)) * (w0 j (n + 1) - r * z j * z (n + 1)) / (ed n w0 + r * z (n + 1) * z (n + 1)) = el n w0 i j - (r * ed n w0 / (ed n w0 + r * z (n + 1) * z (n + 1))) * (z i + z (n + 1) * w0 i (n + 1) / ed n w0) * (z j + z (n + 1) * w0 j (n + 1) / ed n w0) := by
      intro i j _ _ r hr
      unfold el
      have h0 : ed n w0 ≠ 0 := by grind
      generalize ed n w0 = d0 at *
      have h1 : d0 + r * z (n + 1) * z (n + 1) ≠ 0 := by grind
      obtain ⟨d1, hd⟩ : ∃ d1, d1 = d0 + r * z (n + 1) * z (n + 1) := ⟨_, rfl⟩
      rw [← hd] at h1 ⊢
      grind
    have hzz : rs (fun i => z i + z (n + 1) * w0 i (n + 1) / ed n w0) (n + 1) = 0 := by
      have e : rs (fun i => z i + z (n + 1) * w0 i (n + 1) / ed n w0) (n + 1) = rs (fun i => z i + (z (n + 1) / ed n w0) * w0 i (n + 1)) (n + 1) := rs_cong (fun i _ => by grind)
      rw [e, rs_add, rs_mul, hz1]
      show - z (n + 1) + z (n + 1) / ed n w0 * ed n w0 = 0
      have h0 : ed n w0 ≠ 0 := by grind
      generalize ed n w0 = d0 at *
      grind
    unfold EE
    rw [hdt]
    have hel : EE n (el n (fun i j => (1 - t) * w0 i j + t * w1 i j)) = EE n (fun i j => (1 - t * ed n w1 / ((1 - t) * ed n w0 + t * ed n w1)) * el n w0 i j + (t * ed n w1 / ((1 - t) * ed n w0 + t * ed n w1)) * el n w1 i j) := by
      refine EE_cong n (fun i j hij hj => ?_)
      have k1 := key i j hij hj s (by rw [← hd1]; exact q1)
      have k2 := key i j hij hj (t * s) (by rw [hd1] at qt; grind)
      have e1 : el n w1 i j = el n w0 i j - (s * ed n w0 / ed n w1) * (z i + z (n + 1) * w0 i (n + 1) / ed n w0) * (z j + z (n + 1) * w0 j (n + 1) / ed n w0) := by
        rw [hd1, ← k1]
        show w1 i j + w1 i (n + 1) * w1 j (n + 1) / ed n w1 = _
        rw [hw i j hij (by omega), hw i (n + 1) (by omega) (Nat.le_refl _), hw j (n + 1) (by omega) (Nat.le_refl _), hd1]
      have e2 : el n (fun i j => (1 - t) * w0 i j + t * w1 i j) i j = el n w0 i j - (t * s * ed n w0 / ((1 - t) * ed n w0 + t * ed n w1)) * (z i + z (n + 1) * w0 i (n + 1) / ed n w0) * (z j + z (n + 1) * w0 j (n + 1) / ed n w0) := by
        have ee : (1 - t) * ed n w0 + t * ed n w1 = ed n w0 + t * s * z (n + 1) * z (n + 1) := by rw [hd1]; grind
        rw [ee, ← k2]
        show ((1 - t) * w0 i j + t * w1 i j) + ((1 - t) * w0 i (n + 1) + t * w1 i (n + 1)) * ((1 - t) * w0 j (n + 1) + t * w1 j (n + 1)) / ed n _ = _
        rw [hdt, ee, hw i j hij (by omega), hw i (n + 1) (by omega) (Nat.le_refl _), hw j (n + 1) (by omega) (Nat.le_refl _)]
        grind
      rw [e1, e2]
      have h1 : ed n w1 ≠ 0 := by grind
      have h2 : (1 - t) * ed n w0 + t * ed n w1 ≠ 0 := by grind
      generalize (1 - t) * ed n w0 + t * ed n w1 = dt at *
      generalize el n w0 i j = a at *
      generalize z i + z (n + 1) * w0 i (n + 1) / ed n w0 = x at *
      generalize z j + z (n + 1) * w0 j (n + 1) / ed n w0 = y at *
      generalize ed n w0 = d0 at *
      generalize ed n w1 = d1 at *
      grind
    have hmu0 : 0 ≤ t * ed n w1 / ((1 - t) * ed n w0 + t * ed n w1) := by
      rw [Rat.div_def]
      exact Rat.mul_nonneg (Rat.mul_nonneg t0 (by grind)) (by have := Rat.inv_pos.mpr qt; grind)
    have hmu1 : t * ed n w1 / ((1 - t) * ed n w0 + t * ed n w1) ≤ 1 := by
      have h3 : 0 ≤ (1 - t) * ed n w0 / ((1 - t) * ed n w0 + t * ed n w1) := by
        rw [Rat.div_def]
        exact Rat.mul_nonneg (Rat.mul_nonneg (by grind) (by grind)) (by have := Rat.inv_pos.mpr qt; grind)
      have h2 : (1 - t) * ed n w0 + t * ed n w1 ≠ 0 := by grind
      have h4 : (1 - t) * ed n w0 / ((1 - t) * ed n w0 + t * ed n w1) + t * ed n w1 / ((1 - t) * ed n w0 + t * ed n w1) = 1 := by
        generalize (1 - t) * ed n w0 = x at *
        generalize t * ed n w1 = y at *
        grind
      grind
    have hih := ih (el n w0) (el n w1) (fun i => z i + z (n + 1) * w0 i (n + 1) / ed n w0) (s * ed n w0 / ed n w1) (el_pos p0) (el_pos p1) hzz (fun i j hij hj => by
      have k1 := key i j hij hj s (by rw [← hd1]; exact q1)
      rw [hd1, ← k1]
      show w1 i j + w1 i (n + 1) * w1 j (n + 1) / ed n w1 = _
      rw [hw i j hij (by omega), hw i (n + 1) (by omega) (Nat.le_refl _), hw j (n + 1) (by omega) (Nat.le_refl _), hd1]) _ hmu0 hmu1
    rw [hel, hih]
    have h2 : (1 - t) * ed n w0 + t * ed n w1 ≠ 0 := by grind
    generalize EE n (el n w0) = E0 at *
    generalize EE n (el n w1) = E1 at *
    generalize ed n w0 = d0 at *
    generalize ed n w1 = d1 at *
    clear hel hih key hzz hdt hd1
    grind
