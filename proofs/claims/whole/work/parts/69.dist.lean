/-! how many swaps a good tree lies from another -/
section DST
variable {K : Nat} {adj : Nat → Nat → Bool} {g : Nat}
theorem RI_step {k i : Nat} (h : RI K adj g k i = true) : RI K adj g (k + 1) i = true := by
  show (RI K adj g k i || _) = true
  rw [h]; rfl
theorem RI_le {k i : Nat} : ∀ {l : Nat}, k ≤ l → RI K adj g k i = true → RI K adj g l i = true := by
  intro l
  induction l with
  | zero => intro h hk; rw [Nat.le_zero.mp h] at hk; exact hk
  | succ l ih =>
    intro h hk
    by_cases e : k = l + 1
    · rw [← e]; exact hk
    · exact RI_step (ih (by omega) hk)
theorem RI_not {k i l : Nat} (h : k ≤ l) (hl : RI K adj g l i = false) : RI K adj g k i = false := by
  cases hk : RI K adj g k i with
  | false => rfl
  | true => rw [RI_le h hk] at hl; cases hl
theorem RI_next {k i : Nat} : RI K adj g (k + 1) i = true ↔ RI K adj g k i = true ∨ ∃ j, j < K ∧ RI K adj g k j = true ∧ adj j i = true := by
  show (RI K adj g k i || (List.range K).any (fun j => RI K adj g k j && adj j i)) = true ↔ _
  rw [Bool.or_eq_true, List.any_eq_true]
  constructor
  · rintro (h | ⟨j, h1, h2⟩)
    · exact Or.inl h
    · rw [Bool.and_eq_true] at h2
      exact Or.inr ⟨j, List.mem_range.mp h1, h2⟩
  · rintro (h | ⟨j, h1, h2, h3⟩)
    · exact Or.inl h
    · exact Or.inr ⟨j, List.mem_range.mpr h1, by rw [h2, h3]; rfl⟩
theorem ds_le (l i : Nat) : ds K adj g l i ≤ l := fb_ct_le _ l
theorem ds_full {l i : Nat} (h : RI K adj g l i = false) : ds K adj g (l + 1) i = l + 1 := by
  refine fb_ct_all.mpr (fun k hk => ?_)
  rw [RI_not (show k ≤ l by omega) h]; rfl
theorem ds_keep {l i : Nat} (h : RI K adj g l i = true) : ds K adj g (l + 1) i = ds K adj g l i := by
  unfold ds
  rw [fb_ct_succ, if_neg (by rw [h]; decide), Nat.add_zero]
theorem ds_is {i : Nat} : ∀ {l : Nat}, RI K adj g l i = true → RI K adj g (ds K adj g l i) i = true ∧ ∀ k, k < ds K adj g l i → RI K adj g k i = false := by
  intro l
  induction l with
  | zero => intro h; exact ⟨h, fun k hk => absurd hk (Nat.not_lt_zero k)⟩
  | succ l ih =>
    intro h
    cases hl : RI K adj g l i with
    | true => rw [ds_keep hl]; exact ih hl
    | false =>
      rw [ds_full hl]
      exact ⟨h, fun k hk => RI_not (by omega) hl⟩
theorem ds_more {i l : Nat} (h : RI K adj g l i = true) : ∀ d, ds K adj g (l + d) i = ds K adj g l i := by
  intro d
  induction d with
  | zero => rfl
  | succ d ih => rw [← Nat.add_assoc, ds_keep (RI_le (by omega) h), ih]
theorem RI_shut {l : Nat} (h : ∀ i, i < K → RI K adj g (l + 1) i = RI K adj g l i) : ∀ d i, i < K → RI K adj g (l + d) i = RI K adj g l i := by
  intro d
  induction d with
  | zero => intro i _; rfl
  | succ d ih =>
    intro i hi
    rw [Bool.eq_iff_iff, ← Nat.add_assoc, RI_next, ← h i hi, RI_next]
    constructor
    · rintro (w | ⟨j, hj, w1, w2⟩)
      · rw [ih i hi] at w; exact Or.inl w
      · rw [ih j hj] at w1; exact Or.inr ⟨j, hj, w1, w2⟩
    · rintro (w | ⟨j, hj, w1, w2⟩)
      · exact Or.inl (by rw [ih i hi]; exact w)
      · exact Or.inr ⟨j, hj, by rw [ih j hj]; exact w1, w2⟩
end DST
