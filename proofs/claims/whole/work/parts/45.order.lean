/-! the order that counting makes: by a digit, and among equals by place -/
def posK (d : Nat → Nat) (K i : Nat) : Nat := fb_ct (fun j => decide (d j < d i ∨ (d j = d i ∧ j < i))) K
def strt (d : Nat → Nat) (K c : Nat) : Nat := fb_ct (fun j => decide (d j < c)) K
def eqs (d : Nat → Nat) (c i : Nat) : Nat := fb_ct (fun j => decide (d j = c)) i
theorem fb_ct_strict {p q : Nat → Bool} {i n : Nat} (hi : i < n) (hp : p i = false) (hq : q i = true) (h : ∀ k, k < n → p k = true → q k = true) : fb_ct p n < fb_ct q n := by
  have h1 := fb_ct_drop (q := fun k => q k && decide (k ≠ i)) hi hq (fun k _ => rfl)
  have h2 : fb_ct p n ≤ fb_ct (fun k => q k && decide (k ≠ i)) n := fb_ct_sub (fun k hk hpk => by
    have : k ≠ i := fun e => by rw [e, hp] at hpk; cases hpk
    simp [h k hk hpk, this])
  omega
theorem posK_lt {d : Nat → Nat} {K i : Nat} (hi : i < K) : posK d K i < K := by
  have : fb_ct (fun j => decide (d j < d i ∨ (d j = d i ∧ j < i))) K < fb_ct (fun _ => true) K := fb_ct_strict hi (by simp) rfl (fun _ _ _ => rfl)
  have h2 := fb_ct_le (fun _ => true) K
  exact Nat.lt_of_lt_of_le this h2
theorem posK_mono {d : Nat → Nat} {K i j : Nat} (hi : i < K) (h : d i < d j ∨ (d i = d j ∧ i < j)) : posK d K i < posK d K j := by
  refine fb_ct_strict hi (by simp) (decide_eq_true h) (fun k _ hk => ?_)
  have hk := of_decide_eq_true hk
  exact decide_eq_true (by omega)
theorem posK_inj {d : Nat → Nat} {K i j : Nat} (hi : i < K) (hj : j < K) (e : posK d K i = posK d K j) : i = j := by
  refine Nat.le_antisymm (Nat.not_lt.mp fun z => ?_) (Nat.not_lt.mp fun z => ?_)
  · by_cases y : d i < d j
    · have := posK_mono hi (Or.inl y); omega
    · by_cases w : d j < d i
      · have := posK_mono hj (Or.inl w); omega
      · have := posK_mono (d := d) hj (Or.inr ⟨by omega, z⟩); omega
  · by_cases y : d i < d j
    · have := posK_mono hi (Or.inl y); omega
    · by_cases w : d j < d i
      · have := posK_mono hj (Or.inl w); omega
      · have := posK_mono (d := d) hi (Or.inr ⟨by omega, z⟩); omega
theorem posK_lex {d : Nat → Nat} {K i j : Nat} (hi : i < K) (hj : j < K) (h : posK d K i < posK d K j) : d i < d j ∨ (d i = d j ∧ i < j) := by
  refine Decidable.byContradiction fun z => ?_
  by_cases e : i = j
  · rw [e] at h; omega
  · have := posK_mono (d := d) hj (show d j < d i ∨ (d j = d i ∧ j < i) by omega)
    omega
theorem pig : ∀ (K : Nat) (f : Nat → Nat), (∀ i, i < K → f i < K) → (∀ i j, i < K → j < K → f i = f j → i = j) → ∀ p, p < K → ∃ i, i < K ∧ f i = p := by
  intro K
  induction K with
  | zero => intro f _ _ p hp; exact absurd hp (Nat.not_lt_zero p)
  | succ K ih =>
    intro f hf hinj p hp
    by_cases hpk : f K = p
    · exact ⟨K, Nat.lt_succ_self K, hpk⟩
    · -- p is another's value, below K after swapping
      have hfK := hf K (Nat.lt_succ_self K)
      have hg := ih (fun i => if f i = K then f K else f i) (fun i hi => by
        have h1 := hf i (by omega)
        have h2 : f i ≠ f K := fun e => by have := hinj i K (by omega) (by omega) e; omega
        split
        · omega
        · omega) (fun i j hi hj e => by
        have h1 : f i ≠ f K := fun e => by have := hinj i K (by omega) (by omega) e; omega
        have h2 : f j ≠ f K := fun e => by have := hinj j K (by omega) (by omega) e; omega
        refine hinj i j (by omega) (by omega) ?_
        split at e <;> split at e <;> omega)
      by_cases hp2 : p = K
      · -- someone below K has value K, or f K = K
        by_cases hK : f K = K
        · exact absurd (hK.trans hp2.symm) hpk
        · obtain ⟨i, hi, e⟩ := hg (f K) (by omega)
          split at e
          · exact ⟨i, by omega, by omega⟩
          · have := hinj i K (by omega) (by omega) e; omega
      · obtain ⟨i, hi, e⟩ := hg p (by omega)
        split at e
        · exact absurd e hpk
        · exact ⟨i, by omega, e⟩
theorem posK_surj {d : Nat → Nat} {K p : Nat} (hp : p < K) : ∃ i, i < K ∧ posK d K i = p := pig K (posK d K) (fun _ hi => posK_lt hi) (fun _ _ hi hj e => posK_inj hi hj e) p hp
theorem fb_ct_below (p : Nat → Bool) {i : Nat} : ∀ {K : Nat}, i ≤ K → fb_ct (fun j => p j && decide (j < i)) K = fb_ct p i := by
  intro K
  induction K with
  | zero => intro h; rw [Nat.le_zero.mp h]; rfl
  | succ K ih =>
    intro h
    by_cases e : i = K + 1
    · rw [e]
      exact fb_ct_cong (fun k hk => by simp [hk])
    · rw [fb_ct_succ, ih (by omega), if_neg (by simp; omega), Nat.add_zero]
theorem posK_eq {d : Nat → Nat} {K i : Nat} (hi : i ≤ K) : posK d K i = strt d K (d i) + eqs d (d i) i := by
  unfold posK strt eqs
  rw [← fb_ct_below (fun j => decide (d j = d i)) hi, ← fb_ct_or]
  · refine fb_ct_cong (fun k _ => ?_)
    rw [Bool.decide_or, Bool.decide_and]
  · intro k _ hk
    simp only [decide_eq_true_eq, Bool.and_eq_true] at hk
    omega
theorem strt_succ (d : Nat → Nat) (K c : Nat) : strt d K (c + 1) = strt d K c + eqs d c K := by
  unfold strt eqs
  rw [← fb_ct_or]
  · refine fb_ct_cong (fun k _ => ?_)
    rw [← Bool.decide_or, decide_eq_decide]
    omega
  · intro k _ hk
    simp only [decide_eq_true_eq] at hk
    omega
theorem strt_zero (d : Nat → Nat) (K : Nat) : strt d K 0 = 0 := fb_ct_zero.mpr (fun k _ => by simp)
theorem eqs_succ (d : Nat → Nat) (c i : Nat) : eqs d c (i + 1) = eqs d c i + (if d i = c then 1 else 0) := by
  unfold eqs
  rw [fb_ct_succ]
  simp
theorem strt_le (d : Nat → Nat) (K c : Nat) : strt d K c ≤ K := fb_ct_le _ K
theorem eqs_le (d : Nat → Nat) (c i : Nat) : eqs d c i ≤ i := fb_ct_le _ i
/-- two rows in the same strict order, of the same members, are one -/
theorem srt_one {α : Type} {R : α → α → Prop} (hR : ∀ a b, R a b → ¬ R b a) : ∀ {A B : List α}, A.Pairwise R → B.Pairwise R → (∀ a, a ∈ A ↔ a ∈ B) → A = B := by
  intro A
  induction A with
  | nil =>
    intro B _ _ h
    cases B with
    | nil => rfl
    | cons b B => exact absurd ((h b).mpr List.mem_cons_self) List.not_mem_nil
  | cons a A ih =>
    intro B hA hB h
    cases B with
    | nil => exact absurd ((h a).mp List.mem_cons_self) List.not_mem_nil
    | cons b B =>
      obtain ⟨a1, a2⟩ := List.pairwise_cons.mp hA
      obtain ⟨b1, b2⟩ := List.pairwise_cons.mp hB
      have hab : a = b := by
        rcases List.mem_cons.mp ((h a).mp List.mem_cons_self) with z | z
        · exact z
        · rcases List.mem_cons.mp ((h b).mpr List.mem_cons_self) with y | y
          · exact y.symm
          · exact absurd (b1 a z) (hR _ _ (a1 b y))
      subst hab
      have nA : ¬ a ∈ A := fun z => hR _ _ (a1 a z) (a1 a z)
      have nB : ¬ a ∈ B := fun z => hR _ _ (b1 a z) (b1 a z)
      rw [ih a2 b2 (fun c => ?_)]
      constructor
      · intro hc
        rcases List.mem_cons.mp ((h c).mp (List.mem_cons_of_mem _ hc)) with z | z
        · rw [z] at hc; exact absurd hc nA
        · exact z
      · intro hc
        rcases List.mem_cons.mp ((h c).mpr (List.mem_cons_of_mem _ hc)) with z | z
        · rw [z] at hc; exact absurd hc nB
        · exact z
