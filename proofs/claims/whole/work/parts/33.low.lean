/-! the lowest bit; loops over the bits of a set -/
theorem low_form : ∀ (a : Nat), 0 < a → ∃ l q, a = 2 ^ l * (2 * q + 1) := by
  intro a
  induction a using Nat.strongRecOn with
  | ind a ih =>
    intro ha
    rcases Nat.mod_two_eq_zero_or_one a with h | h
    · obtain ⟨l, q, e⟩ := ih (a / 2) (by omega) (by omega)
      refine ⟨l + 1, q, ?_⟩
      have : a = 2 * (a / 2) := by omega
      rw [this, e, Nat.pow_succ, Nat.mul_comm (2 ^ l) 2, Nat.mul_assoc]
    · exact ⟨0, a / 2, by omega⟩
theorem tb_form (l q i : Nat) : (2 ^ l * (2 * q + 1)).testBit i = (decide (i = l) || (decide (l < i) && q.testBit (i - l - 1))) := by
  rw [Nat.testBit_two_pow_mul]
  rcases Nat.lt_trichotomy i l with h | h | h
  · simp [show ¬ i ≥ l by omega, show ¬ i = l by omega, show ¬ l < i by omega]
  · subst h; simp
  · obtain ⟨k, rfl⟩ : ∃ k, i = l + k + 1 := ⟨i - l - 1, by omega⟩
    have e : l + k + 1 - l = k + 1 := by omega
    rw [e, show k + 1 - 1 = k by omega, Nat.testBit_succ, show (2 * q + 1) / 2 = q by omega]
    simp [show l + k + 1 ≥ l by omega, show ¬ l + k + 1 = l by omega, show l < l + k + 1 by omega]
theorem tb_pred (l q i : Nat) : (2 ^ l * (2 * q + 1) - 1).testBit i = (decide (i < l) || (decide (l < i) && q.testBit (i - l - 1))) := by
  have hp : 0 < 2 ^ l := Nat.two_pow_pos l
  have e : 2 ^ l * (2 * q + 1) - 1 = 2 ^ l * (2 * q) + (2 ^ l - 1) := by rw [Nat.mul_add]; omega
  rw [e, Nat.testBit_two_pow_mul_add _ (by omega)]
  rcases Nat.lt_trichotomy i l with h | h | h
  · rw [if_pos h, Nat.testBit_two_pow_sub_one]; simp [h]
  · subst h; simp
  · rw [if_neg (by omega)]
    obtain ⟨k, rfl⟩ : ∃ k, i = l + k + 1 := ⟨i - l - 1, by omega⟩
    rw [show l + k + 1 - l = k + 1 by omega, show k + 1 - 1 = k by omega, Nat.testBit_succ, show 2 * q / 2 = q by omega]
    simp [show ¬ l + k + 1 < l by omega, show l < l + k + 1 by omega]
/-- bits of a set of lines, the least first -/
def bl (a : Nat) : List Nat := (List.range 14).filter (fun e => a.testBit e)
theorem nI_neg {a : Nat} (ha : a ≤ 2 ^ 32) : - nI a = nI (2 ^ 32 - a) := by
  have h : nI (2 ^ 32 - a) + nI a = 0 := by rw [nI_add, Nat.sub_add_cancel ha]; rfl
  have h2 : nI (2 ^ 32 - a) + nI a - nI a = 0 - nI a := by rw [h]
  rw [Int32.add_sub_cancel] at h2
  rw [h2, Int32.zero_sub]
theorem bl_step {a : Nat} (h0 : 0 < a) (h : a < 2 ^ 14) : ∃ l, l < 14 ∧ LT_lowest (nI a) = nI l ∧ nI a &&& (nI a - 1) = nI (a - 2 ^ l) ∧ bl a = l :: bl (a - 2 ^ l) ∧ a - 2 ^ l < 2 ^ 14 ∧ a.testBit l = true ∧ 2 ^ l ≤ a := by
  obtain ⟨l, q, e⟩ := low_form a h0
  have hp : 0 < 2 ^ l := Nat.two_pow_pos l
  have hle : 2 ^ l ≤ a := by rw [e, Nat.mul_add, Nat.mul_one]; exact Nat.le_add_left _ _
  have hl : l < 14 := by
    refine Nat.not_le.mp fun z => ?_
    have := Nat.pow_le_pow_right (show 0 < 2 by decide) z
    omega
  have hsub : a - 2 ^ l = 2 ^ l * (2 * q) := by rw [e, Nat.mul_add, Nat.mul_one]; omega
  have hsb : ∀ i, (a - 2 ^ l).testBit i = (decide (l < i) && q.testBit (i - l - 1)) := by
    intro i
    rw [hsub, Nat.testBit_two_pow_mul]
    rcases Nat.lt_trichotomy i l with z | z | z
    · simp [show ¬ i ≥ l by omega, show ¬ l < i by omega]
    · subst z; simp
    · obtain ⟨k, rfl⟩ : ∃ k, i = l + k + 1 := ⟨i - l - 1, by omega⟩
      rw [show l + k + 1 - l = k + 1 by omega, show k + 1 - 1 = k by omega, Nat.testBit_succ, show 2 * q / 2 = q by omega]
      simp [show l + k + 1 ≥ l by omega, show l < l + k + 1 by omega]
  have hclr : a &&& (a - 1) = a - 2 ^ l := by
    apply Nat.eq_of_testBit_eq
    intro i
    rw [Nat.testBit_and, hsb, e, tb_form, tb_pred]
    rcases Nat.lt_trichotomy i l with z | z | z
    · simp [show ¬ i = l by omega, show ¬ l < i by omega]
    · subst z; simp
    · simp [show ¬ i < l by omega, show ¬ i = l by omega, z]
  have hneg : a &&& (2 ^ 32 - a) = 2 ^ l := by
    have hq : q < 2 ^ (31 - l) := by
      refine Nat.not_le.mp fun z => ?_
      have h1 : 2 ^ l * 2 ^ (31 - l) ≤ 2 ^ l * q := Nat.mul_le_mul_left _ z
      rw [← Nat.pow_add, show l + (31 - l) = 31 by omega] at h1
      have h2 : 2 ^ l * q ≤ a := by rw [e]; exact Nat.mul_le_mul_left _ (by omega)
      omega
    have e2 : 2 ^ 32 - a = 2 ^ l * (2 * (2 ^ (31 - l) - (q + 1)) + 1) := by
      have h1 : (2 : Nat) ^ 32 = 2 ^ l * (2 * 2 ^ (31 - l)) := by rw [← Nat.pow_succ', ← Nat.pow_add]; congr 1; omega
      rw [h1, e, ← Nat.mul_sub]
      congr 1
      omega
    apply Nat.eq_of_testBit_eq
    intro i
    rw [Nat.testBit_and, e2, e, tb_form, tb_form, Nat.testBit_two_pow]
    rcases Nat.lt_trichotomy i l with z | z | z
    · simp [show ¬ i = l by omega, show ¬ l < i by omega, show ¬ l = i by omega]
    · subst z; simp
    · rw [Nat.testBit_two_pow_sub_succ hq]
      simp [show ¬ i = l by omega, show ¬ l = i by omega]
      intro _ z2 _ _
      exact z2
  refine ⟨l, hl, ?_, ?_, ?_, by omega, by rw [e, tb_form]; simp, hle⟩
  · unfold LT_lowest
    rw [nI_neg (by omega), fa_and, hneg, show (1 : Int32) = nI 1 from rfl, pk_sub hp, J_bc_nI (by have := Nat.pow_le_pow_right (show 0 < 2 by decide) (Nat.le_of_lt hl); omega)]
    congr 1
    unfold pck
    have e1 : fb_ct (fun e => (2 ^ l - 1).testBit e) 32 = fb_ct (fun e => decide (e < l)) 32 := fb_ct_cong (fun k _ => Nat.testBit_two_pow_sub_one l k)
    rw [e1]
    have e2 : 32 = l + (32 - l) := by omega
    rw [e2, fb_ct_split]
    have e3 : fb_ct (fun e => decide (e < l)) l = l := fb_ct_all.mpr (fun k hk => decide_eq_true hk)
    have e4 : fb_ct (fun k => decide (l + k < l)) (32 - l) = 0 := fb_ct_zero.mpr (fun k _ => decide_eq_false (by omega))
    rw [e3, e4, Nat.add_zero]
  · rw [show (1 : Int32) = nI 1 from rfl, pk_sub h0, fa_and, hclr]
  · unfold bl
    have e1 : List.range 14 = List.range (l + 1) ++ (List.range (13 - l)).map (fun k => l + 1 + k) := by
      rw [show 14 = (l + 1) + (13 - l) by omega, List.range_add]
    rw [e1, List.filter_append, List.filter_append, List.range_succ, List.filter_append, List.filter_append]
    have z1 : ∀ i, i < l → a.testBit i = false := fun i hi => by rw [e, tb_form]; simp [show ¬ i = l by omega, show ¬ l < i by omega]
    have z2 : ∀ i, i ≤ l → (a - 2 ^ l).testBit i = false := fun i hi => by rw [hsb]; simp [show ¬ l < i by omega]
    have z3 : a.testBit l = true := by rw [e, tb_form]; simp
    have f1 : (List.range l).filter (fun e => a.testBit e) = [] := List.filter_eq_nil_iff.mpr (fun i hi => by rw [z1 i (List.mem_range.mp hi)]; decide)
    have f2 : (List.range l).filter (fun e => (a - 2 ^ l).testBit e) = [] := List.filter_eq_nil_iff.mpr (fun i hi => by rw [z2 i (Nat.le_of_lt (List.mem_range.mp hi))]; decide)
    have f3 : [l].filter (fun e => a.testBit e) = [l] := by simp [z3]
    have f4 : [l].filter (fun e => (a - 2 ^ l).testBit e) = [] := by simp [z2 l (Nat.le_refl l)]
    rw [f1, f2, f3, f4]
    simp only [List.nil_append, List.cons_append]
    congr 1
    refine List.filter_congr (fun i hi => ?_)
    obtain ⟨k, -, rfl⟩ := List.mem_map.mp hi
    rw [hsb, e, tb_form]
    simp [show ¬ l + 1 + k = l by omega]
theorem bl_zero : bl 0 = [] := List.filter_eq_nil_iff.mpr (fun i _ => by simp)
theorem bl_len (a : Nat) : (bl a).length ≤ 14 := by
  unfold bl
  exact Nat.le_trans (List.length_filter_le _ _) (by simp)
theorem bl_mem {a e : Nat} : e ∈ bl a ↔ e < 14 ∧ a.testBit e = true := by unfold bl; rw [List.mem_filter, List.mem_range]
theorem nI_z {a : Nat} (h : a < 2 ^ 31) : nI a = 0 ↔ a = 0 := by
  constructor
  · intro e; exact (nI_eq h (by decide)).mp (e.trans nI_0.symm)
  · intro e; rw [e]; rfl
theorem nI_m1 {a : Nat} (h : a < 2 ^ 31) : nI a ≠ -1 := by
  intro e
  have h1 := nI_pos h
  rw [e] at h1
  exact h1 (by decide)
theorem imax_nI {a b : Nat} (ha : a < 2 ^ 31) (hb : b < 2 ^ 31) : imax (nI a) (nI b) = nI (max a b) := by
  unfold imax
  by_cases h : a < b
  · rw [if_pos ((nI_ltI ha hb).mpr h), Nat.max_eq_right (Nat.le_of_lt h)]
  · rw [if_neg (fun z => h ((nI_ltI ha hb).mp z)), Nat.max_eq_left (by omega)]
theorem shl1 : ∀ e, e < 31 → (1 : Int32) <<< (nI e &&& 31) = nI (2 ^ e) := by decide +kernel
theorem shr_nI {a e : Nat} (ha : a < 2 ^ 31) (he : e < 32) : nI a >>> (nI e &&& 31) = nI (a / 2 ^ e) := pk_shrN ha _ e (s_l e he)
theorem bit_nI {a e : Nat} (ha : a < 2 ^ 31) (he : e < 32) : (nI a >>> (nI e &&& 31)) &&& 1 = nI (if a.testBit e = true then 1 else 0) := by
  rw [shr_nI ha he, show (1 : Int32) = nI (2 ^ 1 - 1) from rfl, fa_mask]
  congr 1
  rw [Nat.testBit_eq_decide_div_mod_eq]
  by_cases h : a / 2 ^ e % 2 = 1
  · simp [h]
  · have : a / 2 ^ e % 2 = 0 := by omega
    simp [this]
theorem bit0_nI {a e : Nat} (ha : a < 2 ^ 31) (he : e < 32) : (nI a >>> (nI e &&& 31)) &&& 1 = 0 ↔ a.testBit e = false := by
  rw [bit_nI ha he, nI_z (by split <;> omega)]
  cases a.testBit e <;> simp
theorem M_has_nI {a e : Nat} (ha : a < 2 ^ 31) (he : e < 32) : M_has (nI a) (nI e) = if a.testBit e = true then 1 else 0 := by
  unfold M_has
  rw [bit_nI ha he]
  cases a.testBit e
  · rfl
  · rfl
