/-! more weight, more trees; the count of trees is below it -/
theorem EE_mono (n : Nat) {w v : Nat → Nat → Rat} (hp : wpos n w) (h : ∀ i j, i < j → j ≤ n → w i j ≤ v i j) : EE n w ≤ EE n v := by
  have step : ∀ q : Nat, EE n (fun i j => if j * (n + 1) + i < q then v i j else w i j) ≤ EE n (fun i j => if j * (n + 1) + i < q + 1 then v i j else w i j) := by
    intro q
    by_cases hq : q % (n + 1) < q / (n + 1) ∧ q / (n + 1) ≤ n
    · have hpm : wpos n (fun i j => if j * (n + 1) + i < q then v i j else w i j) := by
        intro i j hij hj
        (try dsimp only)
        have h1 := hp i j hij hj
        have h2 := h i j hij hj
        split <;> grind
      have hd := EE_dc n _ (q % (n + 1)) (q / (n + 1)) (v (q % (n + 1)) (q / (n + 1)) - w (q % (n + 1)) (q / (n + 1))) hpm hq.1 hq.2 (by have := h _ _ hq.1 hq.2; grind)
      have e : EE n (fun i j => if j * (n + 1) + i < q + 1 then v i j else w i j) = EE n (fun i j => (if j * (n + 1) + i < q then v i j else w i j) + if i = q % (n + 1) ∧ j = q / (n + 1) then (v (q % (n + 1)) (q / (n + 1)) - w (q % (n + 1)) (q / (n + 1))) else 0) := EE_cong n (fun i j hij hj => by
        (try dsimp only)
        have hu : (i = q % (n + 1) ∧ j = q / (n + 1)) ↔ j * (n + 1) + i = q := by
          constructor
          · rintro ⟨rfl, rfl⟩
            rw [Nat.mul_comm]; exact Nat.div_add_mod q (n + 1)
          · intro e
            subst e
            rw [Nat.mul_comm]
            constructor
            · rw [Nat.mul_add_mod]; exact (Nat.mod_eq_of_lt (by omega)).symm
            · rw [Nat.mul_add_div (by omega), Nat.div_eq_of_lt (by omega)]; omega
        by_cases z : i = q % (n + 1) ∧ j = q / (n + 1)
        · have hz := hu.mp z
          rw [if_pos z, if_neg (show ¬ j * (n + 1) + i < q by omega), if_pos (show j * (n + 1) + i < q + 1 by omega), ← z.1, ← z.2]
          grind
        · have hz : ¬ j * (n + 1) + i = q := fun y => z (hu.mpr y)
          rw [if_neg z]
          by_cases y : j * (n + 1) + i < q
          · rw [if_pos y, if_pos (by omega)]; grind
          · rw [if_neg y, if_neg (by omega)]; grind)
      rw [e, hd]
      have hn : n = n - 1 + 1 := by omega
      have hc : 0 < EE (n - 1) (cn (q % (n + 1)) (q / (n + 1)) (fun i j => if j * (n + 1) + i < q then v i j else w i j)) := EE_pos _ (cn_pos (by rw [← hn]; exact hpm) (by omega))
      have ht : 0 ≤ v (q % (n + 1)) (q / (n + 1)) - w (q % (n + 1)) (q / (n + 1)) := by have := h _ _ hq.1 hq.2; grind
      have := Rat.mul_nonneg ht (show 0 ≤ _ by exact Rat.le_of_lt hc)
      grind
    · have e : EE n (fun i j => if j * (n + 1) + i < q then v i j else w i j) = EE n (fun i j => if j * (n + 1) + i < q + 1 then v i j else w i j) := EE_cong n (fun i j hij hj => by
        (try dsimp only)
        have hz : ¬ j * (n + 1) + i = q := by
          intro e
          apply hq
          subst e
          have e1 : (j * (n + 1) + i) % (n + 1) = i := by rw [Nat.mul_comm, Nat.mul_add_mod]; exact Nat.mod_eq_of_lt (by omega)
          have e2 : (j * (n + 1) + i) / (n + 1) = j := by rw [Nat.mul_comm, Nat.mul_add_div (by omega), Nat.div_eq_of_lt (by omega)]; omega
          rw [e1, e2]
          exact ⟨hij, hj⟩
        by_cases y : j * (n + 1) + i < q
        · rw [if_pos y, if_pos (by omega)]
        · rw [if_neg y, if_neg (by omega)])
      rw [e]
      exact Rat.le_refl
  have all : ∀ q : Nat, EE n w ≤ EE n (fun i j => if j * (n + 1) + i < q then v i j else w i j) := by
    intro q
    induction q with
    | zero => rw [EE_cong n (w := fun i j => if j * (n + 1) + i < 0 then v i j else w i j) (v := w) (fun i j _ _ => by (try dsimp only); rw [if_neg (by omega)])]; exact Rat.le_refl
    | succ q ih => exact Rat.le_trans ih (step q)
  have hl := all ((n + 1) * (n + 1))
  rwa [EE_cong n (w := fun i j => if j * (n + 1) + i < (n + 1) * (n + 1) then v i j else w i j) (v := v) (fun i j hij hj => by
    (try dsimp only)
    rw [if_pos]
    have : j * (n + 1) + (n + 1) ≤ (n + 1) * (n + 1) := by rw [← Nat.succ_mul]; exact Nat.mul_le_mul_right _ (by omega)
    omega)] at hl
def tc : List (Nat × Nat) → (Nat → Nat) → Nat → Nat
  | [], _, k => if k = 1 then 1 else 0
  | e :: L, c, k => tc L c k + (if c e.1 = c e.2 then 0 else tc L (mg c e.1 e.2) (k - 1))
theorem mg_ker {c d : Nat → Nat} (h : ∀ x y, c x = c y ↔ d x = d y) (a b : Nat) : ∀ x y, mg c a b x = mg c a b y ↔ mg d a b x = mg d a b y := by
  intro x y
  unfold mg
  have h1 := h x b; have h2 := h y b; have h3 := h x y; have h4 := h a y; have h5 := h x a; have h6 := h a b
  by_cases p : c x = c b
  · rw [if_pos p, if_pos (h1.mp p)]
    by_cases q : c y = c b
    · rw [if_pos q, if_pos (h2.mp q)]; exact ⟨fun _ => rfl, fun _ => rfl⟩
    · rw [if_neg q, if_neg (fun z => q (h2.mpr z))]; exact h4
  · rw [if_neg p, if_neg (fun z => p (h1.mpr z))]
    by_cases q : c y = c b
    · rw [if_pos q, if_pos (h2.mp q)]; exact h5
    · rw [if_neg q, if_neg (fun z => q (h2.mpr z))]; exact h3
theorem tc_ker : ∀ (L : List (Nat × Nat)) (c d : Nat → Nat) (k : Nat), (∀ x y, c x = c y ↔ d x = d y) → tc L c k = tc L d k := by
  intro L
  induction L with
  | nil => intro c d k _; rfl
  | cons e L ih =>
    intro c d k h
    unfold tc
    rw [ih c d k h, ih (mg c e.1 e.2) (mg d e.1 e.2) (k - 1) (mg_ker h e.1 e.2)]
    by_cases p : c e.1 = c e.2
    · rw [if_pos p, if_pos ((h _ _).mp p)]
    · rw [if_neg p, if_neg (fun z => p ((h _ _).mpr z))]
/-- how many lines are between two labels -/
def cl (L : List (Nat × Nat)) (c : Nat → Nat) (i j : Nat) : Nat := L.countP (fun e => decide ((c e.1 = i ∧ c e.2 = j) ∨ (c e.1 = j ∧ c e.2 = i)))
/-- labels above b come down by one, b goes to a -/
def rl (a b z : Nat) : Nat := if z = b then a else if b < z then z - 1 else z
theorem rl_ker {a b : Nat} (h : a < b) (x y : Nat) : rl a b x = rl a b y ↔ (x = y ∨ ((x = a ∨ x = b) ∧ (y = a ∨ y = b))) := by
  unfold rl
  split <;> split <;> (try split) <;> (try split) <;> omega
theorem cl_rl {a b : Nat} (h : a < b) (c : Nat → Nat) (i j : Nat) (hij : i < j) : ∀ L : List (Nat × Nat), cl L (fun v => rl a b (c v)) i j ≤ cl L c (sk b i) (sk b j) + (if sk b i = a then cl L c b (sk b j) else 0) + (if sk b j = a then cl L c (sk b i) b else 0) := by
  intro L
  induction L with
  | nil => exact Nat.zero_le _
  | cons e L ih =>
    unfold cl at ih ⊢
    simp only [List.countP_cons]
    dsimp only at ih ⊢
    have key : (if decide ((rl a b (c e.1) = i ∧ rl a b (c e.2) = j) ∨ (rl a b (c e.1) = j ∧ rl a b (c e.2) = i)) = true then 1 else 0) ≤ (if decide ((c e.1 = sk b i ∧ c e.2 = sk b j) ∨ (c e.1 = sk b j ∧ c e.2 = sk b i)) = true then 1 else 0) + (if sk b i = a then (if decide ((c e.1 = b ∧ c e.2 = sk b j) ∨ (c e.1 = sk b j ∧ c e.2 = b)) = true then 1 else 0) else 0) + (if sk b j = a then (if decide ((c e.1 = sk b i ∧ c e.2 = b) ∨ (c e.1 = b ∧ c e.2 = sk b i)) = true then 1 else 0) else 0) := by
      have r1 : ∀ z y, rl a b z = y → z = sk b y ∨ (z = b ∧ sk b y = a) := by
        intro z y
        unfold rl sk
        split <;> (try split) <;> (try split) <;> omega
      have r2 : ((rl a b (c e.1) = i ∧ rl a b (c e.2) = j) ∨ (rl a b (c e.1) = j ∧ rl a b (c e.2) = i)) → (decide ((c e.1 = sk b i ∧ c e.2 = sk b j) ∨ (c e.1 = sk b j ∧ c e.2 = sk b i)) = true) ∨ (sk b i = a ∧ decide ((c e.1 = b ∧ c e.2 = sk b j) ∨ (c e.1 = sk b j ∧ c e.2 = b)) = true) ∨ (sk b j = a ∧ decide ((c e.1 = sk b i ∧ c e.2 = b) ∨ (c e.1 = b ∧ c e.2 = sk b i)) = true) := by
        intro p
        have s := sk_lt (b := b) hij
        simp only [decide_eq_true_eq]
        rcases p with ⟨p1, p2⟩ | ⟨p1, p2⟩
        · rcases r1 _ _ p1 with q1 | ⟨q1, q1'⟩ <;> rcases r1 _ _ p2 with q2 | ⟨q2, q2'⟩
          · exact Or.inl (Or.inl ⟨q1, q2⟩)
          · exact Or.inr (Or.inr ⟨q2', Or.inl ⟨q1, q2⟩⟩)
          · exact Or.inr (Or.inl ⟨q1', Or.inl ⟨q1, q2⟩⟩)
          · omega
        · rcases r1 _ _ p1 with q1 | ⟨q1, q1'⟩ <;> rcases r1 _ _ p2 with q2 | ⟨q2, q2'⟩
          · exact Or.inl (Or.inr ⟨q1, q2⟩)
          · exact Or.inr (Or.inl ⟨q2', Or.inr ⟨q1, q2⟩⟩)
          · exact Or.inr (Or.inr ⟨q1', Or.inr ⟨q1, q2⟩⟩)
          · omega
      generalize decide ((c e.1 = sk b i ∧ c e.2 = sk b j) ∨ (c e.1 = sk b j ∧ c e.2 = sk b i)) = A at *
      generalize decide ((c e.1 = b ∧ c e.2 = sk b j) ∨ (c e.1 = sk b j ∧ c e.2 = b)) = B at *
      generalize decide ((c e.1 = sk b i ∧ c e.2 = b) ∨ (c e.1 = b ∧ c e.2 = sk b i)) = C at *
      by_cases p : (rl a b (c e.1) = i ∧ rl a b (c e.2) = j) ∨ (rl a b (c e.1) = j ∧ rl a b (c e.2) = i)
      · rw [if_pos (decide_eq_true p)]
        rcases r2 p with h1 | ⟨h1, h2⟩ | ⟨h1, h2⟩
        · subst h1; rw [if_pos rfl]; omega
        · subst h2; rw [if_pos h1, if_pos rfl]; omega
        · subst h2; rw [if_pos h1, if_pos rfl]; omega
      · rw [if_neg (by simpa using p)]; exact Nat.zero_le _
    by_cases z1 : sk b i = a
    · by_cases z2 : sk b j = a
      · rw [if_pos z1, if_pos z2] at ih key ⊢; omega
      · rw [if_pos z1, if_neg z2] at ih key ⊢; omega
    · by_cases z2 : sk b j = a
      · rw [if_neg z1, if_pos z2] at ih key ⊢; omega
      · rw [if_neg z1, if_neg z2] at ih key ⊢; omega
theorem tc_le : ∀ (L : List (Nat × Nat)) (c : Nat → Nat) (k : Nat) (w : Nat → Nat → Rat), (∀ e, e ∈ L → c e.1 ≤ k ∧ c e.2 ≤ k) → (∀ i j, i < j → j ≤ k → (cl L c i j : Rat) < w i j) → (tc L c (k + 1) : Rat) ≤ EE k w := by
  intro L
  induction L with
  | nil =>
    intro c k w _ hw
    have hp : wpos k w := fun i j hij hj => by
      have := hw i j hij hj
      have h0 : (0 : Rat) ≤ (cl [] c i j : Rat) := Rat.natCast_nonneg
      grind
    unfold tc
    cases k with
    | zero => unfold EE; simp
    | succ k =>
      rw [if_neg (by omega)]
      have := EE_pos _ hp
      exact Rat.le_of_lt this
  | cons e L ih =>
    intro c k w hc hw
    have hcL : ∀ e', e' ∈ L → c e'.1 ≤ k ∧ c e'.2 ≤ k := fun e' he' => hc e' (List.mem_cons_of_mem _ he')
    have hce := hc e List.mem_cons_self
    have mono : ∀ i j, cl L c i j ≤ cl (e :: L) c i j := fun i j => by unfold cl; rw [List.countP_cons]; omega
    unfold tc
    by_cases p : c e.1 = c e.2
    · rw [if_pos p, Nat.add_zero]
      refine ih c k w hcL (fun i j hij hj => ?_)
      have h1 := hw i j hij hj
      have h2 : (cl L c i j : Rat) ≤ (cl (e :: L) c i j : Rat) := Rat.natCast_le_natCast.mpr (mono i j)
      grind
    · rw [if_neg p]
      obtain ⟨a, b, hab, hbk, hen⟩ : ∃ a b, a < b ∧ b ≤ k ∧ ((c e.1 = a ∧ c e.2 = b) ∨ (c e.1 = b ∧ c e.2 = a)) := by
        rcases Nat.lt_or_ge (c e.1) (c e.2) with q | q
        · exact ⟨c e.1, c e.2, q, hce.2, Or.inl ⟨rfl, rfl⟩⟩
        · exact ⟨c e.2, c e.1, by omega, hce.1, Or.inr ⟨rfl, rfl⟩⟩
      obtain ⟨k', rfl⟩ : ∃ k', k = k' + 1 := ⟨k - 1, by omega⟩
      have hcnt : ∀ i j, i < j → cl (e :: L) c i j = cl L c i j + if i = a ∧ j = b then 1 else 0 := by
        intro i j hij
        unfold cl
        rw [List.countP_cons]
        congr 1
        by_cases z : i = a ∧ j = b
        · rw [if_pos z, if_pos]
          obtain ⟨rfl, rfl⟩ := z
          simpa using hen
        · rw [if_neg z, if_neg]
          simp only [decide_eq_true_eq]
          omega
      have hw0 : ∀ i j, i < j → j ≤ k' + 1 → (cl L c i j : Rat) < w i j - (if i = a ∧ j = b then 1 else 0) := by
        intro i j hij hj
        have h1 := hw i j hij hj
        rw [hcnt i j hij] at h1
        by_cases z : i = a ∧ j = b
        · rw [if_pos z] at h1 ⊢
          rw [Rat.natCast_add] at h1
          have : ((1 : Nat) : Rat) = 1 := rfl
          grind
        · rw [if_neg z] at h1 ⊢
          rw [Nat.add_zero] at h1
          grind
      have hp0 : wpos (k' + 1) (fun i j => w i j - (if i = a ∧ j = b then 1 else 0)) := fun i j hij hj => by
        have := hw0 i j hij hj
        have h0 : (0 : Rat) ≤ (cl L c i j : Rat) := Rat.natCast_nonneg
        (try dsimp only)
        grind
      have i1 := ih c (k' + 1) (fun i j => w i j - (if i = a ∧ j = b then 1 else 0)) hcL hw0
      have hker : ∀ x y, mg c e.1 e.2 x = mg c e.1 e.2 y ↔ (fun v => rl a b (c v)) x = (fun v => rl a b (c v)) y := by
        intro x y
        (try dsimp only)
        rw [rl_ker hab]
        unfold mg
        split <;> split <;> omega
      have i2 := ih (fun v => rl a b (c v)) k' (cn a b (fun i j => w i j - (if i = a ∧ j = b then 1 else 0))) (fun e' he' => by
        have := hcL e' he'
        (try dsimp only)
        unfold rl
        constructor <;> (split <;> (try split) <;> omega)) (fun i j hij hj => by
        have h1 := cl_rl hab c i j hij L
        have h2 : (cl L (fun v => rl a b (c v)) i j : Rat) ≤ ((cl L c (sk b i) (sk b j) + (if sk b i = a then cl L c b (sk b j) else 0) + (if sk b j = a then cl L c (sk b i) b else 0) : Nat) : Rat) := Rat.natCast_le_natCast.mpr h1
        have sym : ∀ x y, cl L c x y = cl L c y x := fun x y => by unfold cl; congr 1; funext e'; congr 1; exact propext ⟨fun z => z.symm, fun z => z.symm⟩
        have hs : ∀ x y, x ≠ y → x ≤ k' + 1 → y ≤ k' + 1 → (cl L c x y : Rat) < wsy (fun i j => w i j - (if i = a ∧ j = b then 1 else 0)) x y := by
          intro x y hxy hx hy
          unfold wsy
          split
          · exact hw0 x y (by assumption) hy
          · rw [sym x y]; exact hw0 y x (by omega) hx
        have g1 := hw0 (sk b i) (sk b j) (sk_lt hij) (sk_le hj)
        have g2 := hs b (sk b j) (Ne.symm (sk_ne b j)) hbk (sk_le hj)
        have g3 := hs (sk b i) b (sk_ne b i) (sk_le (by omega)) hbk
        rw [Rat.natCast_add, Rat.natCast_add] at h2
        unfold cn
        by_cases z1 : sk b i = a
        · by_cases z2 : sk b j = a
          · have := sk_lt (b := b) hij; omega
          · rw [if_pos z1, if_neg z2] at h2 ⊢
            have z0 : ((0 : Nat) : Rat) = 0 := rfl
            grind
        · by_cases z2 : sk b j = a
          · rw [if_neg z1, if_pos z2] at h2 ⊢
            have z0 : ((0 : Nat) : Rat) = 0 := rfl
            grind
          · rw [if_neg z1, if_neg z2] at h2 ⊢
            have z0 : ((0 : Nat) : Rat) = 0 := rfl
            grind)
      have hd := EE_dc (k' + 1) (fun i j => w i j - (if i = a ∧ j = b then 1 else 0)) a b 1 hp0 hab hbk (by grind)
      have hE : EE (k' + 1) w = EE (k' + 1) (fun i j => (w i j - (if i = a ∧ j = b then 1 else 0)) + if i = a ∧ j = b then 1 else 0) := EE_cong _ (fun i j _ _ => by (try dsimp only); grind)
      rw [hE, hd, show k' + 1 + 1 - 1 = k' + 1 by omega, tc_ker L _ _ _ hker, Rat.natCast_add]
      have e3 : k' + 1 - 1 = k' := by omega
      rw [e3]
      grind
