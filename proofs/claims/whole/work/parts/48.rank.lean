/-! the class's order of its good trees -/
theorem incr_id {K : Nat} {g : Nat → Nat} (h1 : ∀ q, q < K → g q < K) (h2 : ∀ q r, q < r → r < K → g q < g r) : ∀ q, q < K → g q = q := by
  have low : ∀ q, q < K → q ≤ g q := by
    intro q
    induction q with
    | zero => intro _; exact Nat.zero_le _
    | succ q ih =>
      intro h
      have := ih (by omega)
      have := h2 q (q + 1) (by omega) h
      omega
  have up : ∀ d q, q + d + 1 = K → g q ≤ q := by
    intro d
    induction d with
    | zero => intro q h; have := h1 q (by omega); omega
    | succ d ih =>
      intro q h
      have := ih (q + 1) (by omega)
      have := h2 q (q + 1) (by omega) (by omega)
      omega
  intro q hq
  have := low q hq
  have := up (K - 1 - q) q (by omega)
  omega
theorem posK_uniq {c f : Nat → Nat} {K : Nat} (h1 : ∀ i, i < K → f i < K) (h2 : ∀ i j, i < K → j < K → (c i < c j ∨ (c i = c j ∧ i < j)) → f i < f j) : ∀ i, i < K → f i = posK c K i := by
  have hs : ∀ q : Nat, ∃ i : Nat, q < K → i < K ∧ posK c K i = q := fun q => by
    by_cases h : q < K
    · obtain ⟨i, a, b⟩ := posK_surj (d := c) h
      exact ⟨i, fun _ => ⟨a, b⟩⟩
    · exact ⟨0, fun z => absurd z h⟩
  obtain ⟨v, hv⟩ := Classical.axiomOfChoice hs
  have hid := incr_id (K := K) (g := fun q => f (v q)) (fun q hq => h1 _ (hv q hq).1) (fun q r hqr hr => by
    obtain ⟨a1, a2⟩ := hv q (by omega)
    obtain ⟨b1, b2⟩ := hv r hr
    exact h2 _ _ a1 b1 (posK_lex a1 b1 (by omega)))
  intro i hi
  have hp : posK c K i < K := posK_lt hi
  obtain ⟨a1, a2⟩ := hv _ hp
  have := hid _ hp
  have e : v (posK c K i) = i := posK_inj a1 hi a2
  rw [← this]
  show f i = f (v (posK c K i))
  rw [e]
theorem two_pass {K : Nat} {c d2 : Nat → Nat} (hd : ∀ i, i < K → d2 (posK (fun j => c j % 128) K i) = c i / 128) : ∀ i, i < K → posK d2 K (posK (fun j => c j % 128) K i) = posK c K i := by
  refine posK_uniq (fun i hi => posK_lt (posK_lt hi)) (fun i j hi hj h => posK_mono (posK_lt hi) ?_)
  rw [hd i hi, hd j hj]
  by_cases e : c i / 128 < c j / 128
  · exact Or.inl e
  · refine Or.inr ⟨by omega, posK_mono hi ?_⟩
    show c i % 128 < c j % 128 ∨ (c i % 128 = c j % 128 ∧ i < j)
    omega
theorem posK_cong {d e : Nat → Nat} {K : Nat} (h : ∀ j, j < K → d j = e j) {i : Nat} (hi : i < K) : posK d K i = posK e K i := by
  unfold posK
  refine fb_ct_cong (fun k hk => ?_)
  rw [h k hk, h i hi]
def RKR (σ : St) (K : Nat) (P c : Nat → Nat) : Prop := ∀ i, i < K → σ.2.1 14 (posK c K i) = nI (2 ^ 11 * c i + P i)
theorem shl11 (a : Nat) : nI a <<< ((11 : Int32) &&& 31) = nI (2 ^ 11 * a) := by
  rw [show (11 : Int32) &&& 31 = 11 from rfl]
  apply Int32.toBitVec_inj.mp
  show (BitVec.ofNat 32 a) <<< (11 : Nat) = BitVec.ofNat 32 (2 ^ 11 * a)
  apply BitVec.eq_of_toNat_eq
  rw [BitVec.toNat_shiftLeft, BitVec.toNat_ofNat, BitVec.toNat_ofNat, Nat.shiftLeft_eq, Nat.mul_comm (2 ^ 11) a]
  exact Nat.mod_mul_mod a (2 ^ 11) (2 ^ 32)
theorem GT_rank_ok {σ : St} {K : Nat} {P c : Nat → Nat} (hK : K ≤ 1280) (h18 : σ.1 18 = nI K) (h13 : ∀ i, i < K → σ.2.1 13 i = nI (P i) ∧ P i < 1280) (h7 : ∀ i, i < K → σ.2.1 7 (P i) = nI (c i) ∧ c i < 16384) {N : Nat} (hN : 1300 ≤ N) (h21 : σ.1 21 = 0 ∨ (σ.1 21 = 1 ∧ RKR σ K P c)) : ∃ σ', GT_rank N σ = some σ' ∧ RKR σ' K P c ∧ σ'.1 21 = 1 ∧ (∀ k, k ≠ 21 → σ'.1 k = σ.1 k) ∧ σ'.2.2 = σ.2.2 ∧ (∀ k, k ≠ 14 → k ≠ 15 → k ≠ 16 → σ'.2.1 k = σ.2.1 k) := by
  unfold GT_rank
  rcases h21 with h21 | ⟨h21, hr⟩
  · rw [h21, if_pos rfl]
    have loop : ∀ (q i : Nat), i + q = K → ∀ fuel, q < fuel → ∀ ρ : St, ρ.1 = σ.1 → ρ.2.2 = σ.2.2 → (∀ k, k ≠ 14 → ρ.2.1 k = σ.2.1 k) → (∀ j, j < i → ρ.2.1 14 j = nI (2 ^ 11 * c j + P j)) → ∃ ρ' : St, GT_rank_10 N (GT_rank_54 N) fuel (nI i) ρ = GT_rank_54 N ρ' ∧ ρ'.1 = σ.1 ∧ ρ'.2.2 = σ.2.2 ∧ (∀ k, k ≠ 14 → ρ'.2.1 k = σ.2.1 k) ∧ (∀ j, j < K → ρ'.2.1 14 j = nI (2 ^ 11 * c j + P j)) := by
      intro q
      induction q with
      | zero =>
        intro i hi fuel hf ρ r1 r2 r3 r4
        obtain ⟨fuel, rfl⟩ : ∃ z, fuel = z + 1 := ⟨fuel - 1, by omega⟩
        rw [GT_rank_10_s, r1, h18, if_pos (nI_le (by omega) (by omega))]
        exact ⟨ρ, rfl, r1, r2, r3, fun j hj => r4 j (by omega)⟩
      | succ q ih =>
        intro i hi fuel hf ρ r1 r2 r3 r4
        obtain ⟨fuel, rfl⟩ : ∃ z, fuel = z + 1 := ⟨fuel - 1, by omega⟩
        obtain ⟨p1, p2⟩ := h13 i (by omega)
        obtain ⟨c1, c2⟩ := h7 i (by omega)
        have gi : inb (nI i) 1280 = true := inb_nI (by omega) (by decide)
        rw [GT_rank_10_s, r1, h18, if_neg (nI_ge (by omega) (by omega)), grd_t gi, nI_clamp (by omega), r3 13 (by decide), p1, grd_t (inb_nI p2 (by decide)), grd_t gi, grd_t gi, nI_clamp (by omega), r3 7 (by decide), c1, shl11, fa_or_sum _ (show P i < 2 ^ 11 by omega), nI_1]
        unfold lt
        refine ih (i + 1) (by omega) fuel (by omega) _ r1 r2 (fun k hk => by rw [sa_ne _ _ _ hk]; exact r3 k hk) (fun j hj => ?_)
        rw [sa_same]
        by_cases e : j = i
        · rw [e, upd_s]
        · rw [upd_n _ _ e]; exact r4 j (by omega)
    obtain ⟨ρ, e, r1, r2, r3, r4⟩ := loop K 0 (by omega) N (by omega) σ rfl rfl (fun _ _ => rfl) (fun j hj => absurd hj (Nat.not_lt_zero j))
    rw [show (0 : Int32) = nI 0 from rfl, e]
    unfold GT_rank_54
    have hA : ∀ i, i < K → ρ.2.1 14 i = nI (2 ^ 11 * c i + P i) ∧ 2 ^ 11 * c i + P i < 2 ^ 31 := fun i hi => ⟨r4 i hi, by have := (h13 i hi).2; have := (h7 i hi).2; omega⟩
    obtain ⟨σ1, s1, s2, s3, s4, s5⟩ := sort_RS_ok hK (by rw [r1]; exact h18) hA (s := 11) (by decide) hN
    have s2' : ∀ i, i < K → σ1.2.1 15 (posK (fun j => c j % 128) K i) = nI (2 ^ 11 * c i + P i) := fun i hi => by
      rw [← posK_cong (d := fun j => (2 ^ 11 * c j + P j) / 2 ^ 11 % 128) (fun j hj => by have := (h13 j hj).2; show (2 ^ 11 * c j + P j) / 2 ^ 11 % 128 = c j % 128; omega) hi]
      exact s2 i hi
    have hs : ∀ q : Nat, ∃ i : Nat, q < K → i < K ∧ posK (fun j => c j % 128) K i = q := fun q => by
      by_cases h : q < K
      · obtain ⟨i, a, b⟩ := posK_surj (d := fun j => c j % 128) h
        exact ⟨i, fun _ => ⟨a, b⟩⟩
      · exact ⟨0, fun z => absurd z h⟩
    obtain ⟨v, hv⟩ := Classical.axiomOfChoice hs
    have hA2 : ∀ p, p < K → σ1.2.1 15 p = nI (2 ^ 11 * c (v p) + P (v p)) ∧ 2 ^ 11 * c (v p) + P (v p) < 2 ^ 31 := fun p hp => by
      obtain ⟨a, b⟩ := hv p hp
      refine ⟨?_, (hA _ a).2⟩
      have := s2' _ a
      rw [b] at this
      exact this
    obtain ⟨σ2, t1, t2, t3, t4, t5⟩ := sort_SR_ok hK (by rw [s3, r1]; exact h18) (A := fun p => 2 ^ 11 * c (v p) + P (v p)) hA2 (s := 18) (by decide) hN
    have vi : ∀ i, i < K → v (posK (fun j => c j % 128) K i) = i := fun i hi => by
      obtain ⟨a, b⟩ := hv _ (posK_lt (d := fun j => c j % 128) hi)
      exact posK_inj a hi b
    rw [show (11 : Int32) = nI 11 from rfl, bnd_t s1, show (18 : Int32) = nI 18 from rfl, bnd_t t1]
    unfold lt
    refine ⟨_, rfl, fun i hi => ?_, si_same _ _ _, fun k hk => ?_, ?_, fun k k1 k2 k3 => ?_⟩
    · show σ2.2.1 14 _ = _
      have := t2 _ (posK_lt (d := fun j => c j % 128) hi)
      rw [two_pass (c := c) (fun i hi => ?_) i hi] at this
      · rw [vi i hi] at this
        exact this
      · rw [vi i hi]
        have := (h13 i hi).2
        have := (h7 i hi).2
        omega
    · rw [si_ne _ _ hk, t3, s3, r1]
    · show σ2.2.2 = _
      rw [t4, s4, r2]
    · show σ2.2.1 k = _
      rw [t5 k k1 k3, s5 k k2 k3, r3 k k1]
  · rw [h21, if_neg (by decide)]
    exact ⟨σ, rfl, hr, h21, fun _ _ => rfl, rfl, fun _ _ _ _ => rfl⟩
