/-! the reference's next on the front -/
def BSF (c w : Nat → Nat) (p : Nat → Bool) (r : Int32) (j : Nat) : Prop := (r = -1 ∧ ∀ i, i < j → p i = false) ∨ ∃ i, i < j ∧ r = nI i ∧ p i = true ∧ ∀ k, k < j → p k = true → c i < c k ∨ (c i = c k ∧ (w i < w k ∨ (w i = w k ∧ i ≤ k)))
theorem BSF_skip {c w : Nat → Nat} {p : Nat → Bool} {r : Int32} {j : Nat} (h : BSF c w p r j) (hp : p j = false) : BSF c w p r (j + 1) := by
  rcases h with ⟨h1, h2⟩ | ⟨i, h1, h2, h3, h4⟩
  · left
    refine ⟨h1, fun i hi => ?_⟩
    by_cases e : i = j
    · rw [e]; exact hp
    · exact h2 i (by omega)
  · right
    refine ⟨i, by omega, h2, h3, fun k hk hpk => ?_⟩
    by_cases e : k = j
    · rw [e, hp] at hpk; cases hpk
    · exact h4 k (by omega) hpk
theorem M_front36_ok {τ : St} {K : Nat} {c w : Nat → Nat} (hK : K ≤ 1280) (h10 : τ.1 10 = nI K) (h12 : ∀ i, i < K → τ.2.1 12 i = nI (c i) ∧ c i < 2 ^ 31) (h13 : ∀ i, i < K → τ.2.1 13 i = nI (w i) ∧ w i < 2 ^ 31) {N : Nat} (x1 x2 x3 x4 : Int32) (p : Nat → Bool) (hp : (x3 = -1 ∧ ∀ i, i < K → p i = true) ∨ (∃ b, b < K ∧ x3 = nI b ∧ ∀ i, i < K → (p i = true ↔ w i < w b))) (k : Int32 → Int32 → Int32 → Int32 → St → Option (Int32 × St)) : ∀ (d j : Nat), j + d = K → ∀ fuel, d < fuel → ∀ r : Int32, BSF c w p r j → ∃ r', M_front_36 N k fuel x1 x2 x3 x4 r (nI j) τ = k x1 x2 x4 r' τ ∧ BSF c w p r' K := by
  have take : ∀ (j : Nat), j < K → p j = true → ∀ (f : Int32 → Int32 → Int32 → Int32 → Int32 → Int32 → St → Option (Int32 × St)) (r : Int32), BSF c w p r j → ∃ r', M_front_69 N f x1 x2 x3 x4 r (nI j) τ = f x1 x2 x3 x4 r' (nI (j + 1)) τ ∧ BSF c w p r' (j + 1) := by
    intro j hj hpj f r hr
    have gj : inb (nI j) 3432 = true := inb_nI (by omega) (by decide)
    unfold M_front_69
    rcases hr with ⟨h1, h2⟩ | ⟨i, h1, h2, h3, h4⟩
    · rw [h1, if_pos rfl, nI_1]
      refine ⟨_, rfl, Or.inr ⟨j, by omega, rfl, hpj, fun q hq hpq => ?_⟩⟩
      by_cases e : q = j
      · rw [e]; omega
      · rw [h2 q (by omega)] at hpq; cases hpq
    · have gi : inb (nI i) 3432 = true := inb_nI (by omega) (by decide)
      obtain ⟨u1, u2⟩ := h12 i (by omega)
      obtain ⟨v1, v2⟩ := h12 j hj
      obtain ⟨u3, u4⟩ := h13 i (by omega)
      obtain ⟨v3, v4⟩ := h13 j hj
      rw [h2, if_neg (nI_m1 (by omega)), grd_t gj, grd_t gi, grd_t gj, grd_t gi, grd_t gj, grd_t gi, nI_clamp (by omega), nI_clamp (by omega), u1, v1, u3, v3, nI_1]
      have self : BSF c w p (nI j) (j + 1) ∨ True := Or.inr trivial
      have newj : (∀ q, q < j → p q = true → c j < c q ∨ (c j = c q ∧ (w j < w q ∨ (w j = w q ∧ j ≤ q)))) → BSF c w p (nI j) (j + 1) := fun hh => Or.inr ⟨j, by omega, rfl, hpj, fun q hq hpq => by
        by_cases e : q = j
        · rw [e]; omega
        · exact hh q (by omega) hpq⟩
      have oldi : (c i < c j ∨ (c i = c j ∧ (w i < w j ∨ (w i = w j ∧ i ≤ j)))) → BSF c w p (nI i) (j + 1) := fun hh => Or.inr ⟨i, by omega, rfl, h3, fun q hq hpq => by
        by_cases e : q = j
        · rw [e]; exact hh
        · exact h4 q (by omega) hpq⟩
      by_cases hlt : c j < c i
      · rw [if_pos (nI_lt hlt u2)]
        exact ⟨_, rfl, newj (fun q hq hpq => by have := h4 q hq hpq; omega)⟩
      · rw [if_neg (fun z => hlt ((nI_ltI v2 u2).mp z))]
        by_cases heq : c j = c i
        · rw [if_pos (by rw [heq])]
          by_cases hle : w i ≤ w j
          · rw [if_pos (nI_le hle v4)]
            exact ⟨_, rfl, oldi (by omega)⟩
          · rw [if_neg (nI_ge (by omega) u4)]
            exact ⟨_, rfl, newj (fun q hq hpq => by have := h4 q hq hpq; omega)⟩
        · rw [if_neg (fun z => heq ((nI_eq v2 u2).mp z))]
          exact ⟨_, rfl, oldi (by omega)⟩
  intro d
  induction d with
  | zero =>
    intro j hj fuel hf r hr
    obtain ⟨fuel, rfl⟩ : ∃ z, fuel = z + 1 := ⟨fuel - 1, by omega⟩
    rw [M_front_36_s, h10, if_pos (nI_le (by omega) (by omega))]
    exact ⟨r, rfl, (show j = K by omega) ▸ hr⟩
  | succ d ih =>
    intro j hj fuel hf r hr
    obtain ⟨fuel, rfl⟩ : ∃ z, fuel = z + 1 := ⟨fuel - 1, by omega⟩
    rw [M_front_36_s, h10, if_neg (nI_ge (by omega) (by omega))]
    have go : p j = true → ∃ r', M_front_69 N (M_front_36 N k fuel) x1 x2 x3 x4 r (nI j) τ = k x1 x2 x4 r' τ ∧ BSF c w p r' K := fun hpj => by
      obtain ⟨r', a, b⟩ := take j (by omega) hpj (M_front_36 N k fuel) r hr
      rw [a]
      exact ih (j + 1) (by omega) fuel (by omega) r' b
    rcases hp with ⟨e1, hpa⟩ | ⟨b, hb, e1, hpa⟩
    · rw [if_pos e1]
      exact go (hpa j (by omega))
    · rw [e1, if_neg (nI_m1 (by omega)), grd_t (inb_nI (by omega) (by decide)), grd_t (inb_nI (by omega) (by decide)), nI_clamp (by omega), nI_clamp (by omega), (h13 j (by omega)).1, (h13 b hb).1]
      by_cases hz : w j < w b
      · rw [if_pos (nI_lt hz (h13 b hb).2)]
        have := go ((hpa j (by omega)).mpr hz)
        rw [e1] at this
        exact this
      · rw [if_neg (fun z => hz ((nI_ltI (h13 j (by omega)).2 (h13 b hb).2).mp z)), nI_1]
        have := ih (j + 1) (by omega) fuel (by omega) r (BSF_skip hr (Bool.eq_false_iff.mpr (fun z => hz ((hpa j (by omega)).mp z))))
        rw [e1] at this
        exact this
