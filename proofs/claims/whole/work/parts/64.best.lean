/-! the reference's best of some good trees -/
def BST (c : Nat → Nat) (p : Nat → Bool) (r : Int32) (j : Nat) : Prop := (r = -1 ∧ ∀ i, i < j → p i = false) ∨ ∃ i, i < j ∧ r = nI i ∧ p i = true ∧ ∀ k, k < j → p k = true → c i < c k ∨ (c i = c k ∧ i ≤ k)
theorem BST_skip {c : Nat → Nat} {p : Nat → Bool} {r : Int32} {j : Nat} (h : BST c p r j) (hp : p j = false) : BST c p r (j + 1) := by
  rcases h with ⟨h1, h2⟩ | ⟨i, h1, h2, h3, h4⟩
  · left
    refine ⟨h1, fun i hi => ?_⟩
    by_cases e : i = j
    · rw [e]; exact hp
    · exact h2 i (by omega)
  · right
    refine ⟨i, by omega, h2, h3, fun k hk hpk => ?_⟩
    by_cases e : k = j
    · rw [e, hp] at hpk; cases hpk
    · exact h4 k (by omega) hpk
theorem M_best_ok {τ : St} {K : Nat} {c g : Nat → Nat} (hK : K ≤ 1280) (h10 : τ.1 10 = nI K) (h11 : ∀ i, i < K → τ.2.1 11 i = nI (g i)) (h12 : ∀ i, i < K → τ.2.1 12 i = nI (c i) ∧ c i < 2 ^ 31) {N : Nat} (hN : 1300 ≤ N) (x1 x2 : Int32) (p : Nat → Bool) (hp : (x1 = -1 ∧ ∀ i, i < K → p i = true) ∨ (x1 ≠ -1 ∧ ∀ i, i < K → (M_has (nI (g i)) x1 = x2 ↔ p i = true))) : ∃ r, M_best N x1 x2 τ = some r ∧ BST c p r K := by
  have take : ∀ (j : Nat), j < K → p j = true → ∀ (k : Int32 → Int32 → Int32 → Int32 → St → Option Int32) (r : Int32), BST c p r j → ∃ r', M_best_37 N k x1 x2 r (nI j) τ = k x1 x2 r' (nI (j + 1)) τ ∧ BST c p r' (j + 1) := by
    intro j hj hpj k r hr
    unfold M_best_37
    rcases hr with ⟨h1, h2⟩ | ⟨i, h1, h2, h3, h4⟩
    · rw [h1, if_pos rfl, nI_1]
      refine ⟨_, rfl, Or.inr ⟨j, by omega, rfl, hpj, fun q hq hpq => ?_⟩⟩
      by_cases e : q = j
      · rw [e]; exact Or.inr ⟨rfl, Nat.le_refl _⟩
      · rw [h2 q (by omega)] at hpq; cases hpq
    · rw [h2, if_neg (nI_m1 (by omega)), grd_t (inb_nI (by omega) (by decide)), grd_t (inb_nI (by omega) (by decide)), nI_clamp (by omega), nI_clamp (by omega), (h12 i (by omega)).1, (h12 j hj).1, nI_1]
      have b1 := (h12 i (by omega)).2
      have b2 := (h12 j hj).2
      by_cases hle : c i ≤ c j
      · rw [if_pos (nI_le hle b2)]
        refine ⟨_, rfl, Or.inr ⟨i, by omega, rfl, h3, fun q hq hpq => ?_⟩⟩
        by_cases e : q = j
        · rw [e]; omega
        · exact h4 q (by omega) hpq
      · rw [if_neg (nI_ge (by omega) b1)]
        refine ⟨_, rfl, Or.inr ⟨j, by omega, rfl, hpj, fun q hq hpq => ?_⟩⟩
        by_cases e : q = j
        · rw [e]; exact Or.inr ⟨rfl, Nat.le_refl _⟩
        · have := h4 q (by omega) hpq
          omega
  have loop : ∀ (d j : Nat), j + d = K → ∀ fuel, d < fuel → ∀ r : Int32, BST c p r j → ∃ r', M_best_5 N fuel x1 x2 r (nI j) τ = some r' ∧ BST c p r' K := by
    intro d
    induction d with
    | zero =>
      intro j hj fuel hf r hr
      obtain ⟨fuel, rfl⟩ : ∃ z, fuel = z + 1 := ⟨fuel - 1, by omega⟩
      rw [M_best_5_s, h10, if_pos (nI_le (by omega) (by omega))]
      exact ⟨r, rfl, (show j = K by omega) ▸ hr⟩
    | succ d ih =>
      intro j hj fuel hf r hr
      obtain ⟨fuel, rfl⟩ : ∃ z, fuel = z + 1 := ⟨fuel - 1, by omega⟩
      rw [M_best_5_s, h10, if_neg (nI_ge (by omega) (by omega))]
      rcases hp with ⟨e1, hpa⟩ | ⟨e1, hpa⟩
      · rw [if_pos e1]
        obtain ⟨r', a, b⟩ := take j (by omega) (hpa j (by omega)) (M_best_5 N fuel) r hr
        rw [a]
        exact ih (j + 1) (by omega) fuel (by omega) r' b
      · rw [if_neg e1, grd_t (inb_nI (by omega) (by decide)), nI_clamp (by omega), h11 j (by omega)]
        by_cases hz : M_has (nI (g j)) x1 = x2
        · rw [if_pos hz]
          obtain ⟨r', a, b⟩ := take j (by omega) ((hpa j (by omega)).mp hz) (M_best_5 N fuel) r hr
          rw [a]
          exact ih (j + 1) (by omega) fuel (by omega) r' b
        · rw [if_neg hz, nI_1]
          exact ih (j + 1) (by omega) fuel (by omega) r (BST_skip hr (Bool.eq_false_iff.mpr (fun w => hz ((hpa j (by omega)).mpr w))))
  unfold M_best
  exact loop K 0 (by omega) N (by omega) (-1) (Or.inl ⟨rfl, fun i hi => absurd hi (Nat.not_lt_zero i)⟩)
/-- the class's walk down its order, to the first whose line differs -/
theorem slack_walk {σ : St} {K e : Nat} {P c g : Nat → Nat} (hK : K ≤ 1280) (h18 : σ.1 18 = nI K) (h21 : σ.1 21 = 1) (hr : RKR σ K P c) (hP : ∀ i, i < K → P i < 1280) (h6 : ∀ i, i < K → σ.2.1 6 (P i) = nI (g i) ∧ g i < 2 ^ 14) (h7 : ∀ i, i < K → σ.2.1 7 (P i) = nI (c i)) (he : e < 14) {N : Nat} {i0 : Nat} (hi0 : i0 < K) : ∀ (d q : Nat), q + d = K → (∀ i, i < K → posK c K i < q → (g i).testBit e = (g i0).testBit e) → ∀ fuel, d < fuel → (GT_slackOf_17 N (GT_slackOf_59 N) fuel (nI e) (nI (P i0)) (nI q) σ = some (-1, σ) ∧ ∀ i, i < K → (g i).testBit e = (g i0).testBit e) ∨ (∃ i, i < K ∧ (g i).testBit e ≠ (g i0).testBit e ∧ (∀ k, k < K → (g k).testBit e ≠ (g i0).testBit e → posK c K i ≤ posK c K k) ∧ GT_slackOf_17 N (GT_slackOf_59 N) fuel (nI e) (nI (P i0)) (nI q) σ = some (nI (c i) - nI (c i0), σ)) := by
  intro d
  induction d with
  | zero =>
    intro q hq hs fuel hf
    obtain ⟨fuel, rfl⟩ : ∃ z, fuel = z + 1 := ⟨fuel - 1, by omega⟩
    left
    rw [GT_slackOf_17_s, h18, if_pos (nI_le (by omega) (by omega))]
    exact ⟨rfl, fun i hi => hs i hi (by have := posK_lt (d := c) hi; omega)⟩
  | succ d ih =>
    intro q hq hs fuel hf
    obtain ⟨fuel, rfl⟩ : ∃ z, fuel = z + 1 := ⟨fuel - 1, by omega⟩
    obtain ⟨i, hi, hiq⟩ := posK_surj (d := c) (show q < K by omega)
    have hpr := placeRanked_ok hK (rank_again h21 N) hr hP hi
    rw [hiq] at hpr
    have p1 := hP i hi
    have p2 := hP i0 hi0
    obtain ⟨g1, g2⟩ := h6 i hi
    obtain ⟨g3, g4⟩ := h6 i0 hi0
    have hxor : g i ^^^ g i0 < 2 ^ 14 := Nat.xor_lt_two_pow g2 g4
    rw [GT_slackOf_17_s, h18, if_neg (nI_ge (by omega) (by omega)), hpr]
    unfold bnd2
    dsimp only
    rw [grd_t (inb_nI p1 (by decide)), grd_t (inb_nI p2 (by decide)), nI_clamp (by omega), nI_clamp (by omega), g1, g3, fb_xorI]
    by_cases hz : (g i).testBit e = (g i0).testBit e
    · rw [if_pos ((bit0_nI (by omega) (by omega)).mpr (by rw [Nat.testBit_xor, hz, Bool.xor_self])), nI_1]
      refine ih (q + 1) (by omega) (fun k hk hkq => ?_) fuel (by omega)
      by_cases w : posK c K k = q
      · rw [posK_inj hk hi (w.trans hiq.symm)]; exact hz
      · exact hs k hk (by omega)
    · right
      refine ⟨i, hi, hz, fun k hk hkz => ?_, ?_⟩
      · refine Nat.not_lt.mp fun w => hkz (hs k hk (by omega))
      · rw [if_neg (fun w => by
          have := (bit0_nI (by omega) (by omega)).mp w
          rw [Nat.testBit_xor] at this
          cases h1 : (g i).testBit e <;> cases h2 : (g i0).testBit e <;> simp_all)]
        unfold GT_slackOf_59
        rw [grd_t (inb_nI p1 (by decide)), grd_t (inb_nI p2 (by decide)), nI_clamp (by omega), nI_clamp (by omega), h7 i hi, h7 i0 hi0]
