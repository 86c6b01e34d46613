/-! the class's list of trees is brought up to the newest line -/
section TCU
variable {n m root : Nat} {fr to pr dm : Nat → Nat}
theorem mk_single {n v : Nat} (hv : v < n) : mk n (fun u => decide (u = v)) = 2 ^ v := by
  apply Nat.eq_of_testBit_eq
  intro i
  rw [mk_bit, Nat.testBit_two_pow]
  by_cases h : i = v
  · simp [h, hv]
  · simp [h, Ne.symm h]
theorem TL_row_ok (hw : WN n m root fr to pr dm) {N : Nat} (K : Int32 → St → Option St) (x : Int32) {σ : St} (hx : σ.1 0 = nI n) : ∀ (d v : Nat), v + d = n → ∀ fuel, d < fuel → ∀ ρ : St, ρ.1 = σ.1 → ρ.2.2 = σ.2.2 → (∀ k, k ≠ 12 → ρ.2.1 k = σ.2.1 k) → (∀ u, u < v → ρ.2.1 12 (8 * 0 + u) = nI (mk n (fun w => decide (w = u)))) → ∃ σ', TL_catchUp_18 N K fuel x (nI v) ρ = K x σ' ∧ JR σ' n 0 (fun v => v) ∧ σ'.1 = σ.1 ∧ σ'.2.2 = σ.2.2 ∧ (∀ k, k ≠ 12 → σ'.2.1 k = σ.2.1 k) := by
  have hn8 := hw.2.1
  intro d
  induction d with
  | zero =>
    intro v hv fuel hf ρ r1 r2 r3 r4
    obtain ⟨fuel, rfl⟩ : ∃ z, fuel = z + 1 := ⟨fuel - 1, by omega⟩
    rw [TL_catchUp_18_s, r1, hx, if_pos (nI_le (by omega) (by omega))]
    exact ⟨ρ, rfl, fun u hu => r4 u (by omega), r1, r2, r3⟩
  | succ d ih =>
    intro v hv fuel hf ρ r1 r2 r3 r4
    obtain ⟨fuel, rfl⟩ : ∃ z, fuel = z + 1 := ⟨fuel - 1, by omega⟩
    rw [TL_catchUp_18_s, r1, hx, if_neg (nI_ge (by omega) (by omega)), grd_t (inb_nI (by omega) (by decide)), nI_clamp (by omega), shl1 v (by omega), nI_1]
    unfold lt
    refine ih (v + 1) (by omega) fuel (by omega) (sa ρ 12 v (nI (2 ^ v))) r1 r2 (fun k hk => by rw [sa_ne _ _ _ hk]; exact r3 k hk) (fun u hu => ?_)
    rw [sa_same, Nat.mul_zero, Nat.zero_add]
    by_cases z : u = v
    · rw [z, upd_s, mk_single (by omega)]
    · rw [upd_n _ _ z]
      have := r4 u (by omega)
      rw [Nat.mul_zero, Nat.zero_add] at this
      exact this
theorem TL_catchUp_ok (hw : WN n m root fr to pr dm) {N : Nat} (hN : 20 ≤ N) {σ : St} (hx : NX σ n m root fr to pr dm) {L : Nat} (hL : L ≤ m) (h16 : σ.1 16 = nI L) (hl : TLR σ (tl fr to L (fun v => v) n 0)) : ∃ σ', TL_catchUp N σ = some σ' ∧ TLR σ' (tl fr to m (fun v => v) n 0) ∧ σ'.1 16 = nI m ∧ (∀ k, k ≠ 15 → k ≠ 16 → σ'.1 k = σ.1 k) ∧ (∀ k, k ≠ 6 → k ≠ 11 → k ≠ 12 → σ'.2.1 k = σ.2.1 k) ∧ (∀ k, k ≠ 0 → σ'.2.2 k = σ.2.2 k) := by
  have hn2 := hw.1
  have hn8 := hw.2.1
  have hm := hw.2.2.1
  have hE := hw.2.2.2.2.1
  have loop : ∀ (d L : Nat), L + d = m → ∀ fuel, d < fuel → ∀ ρ : St, FrT σ ρ → TLR ρ (tl fr to L (fun v => v) n 0) → ∃ σ1, TL_catchUp_5 N (TL_catchUp_60 N) fuel (nI L) ρ = some (si σ1 16 (nI m)) ∧ FrT σ σ1 ∧ TLR σ1 (tl fr to m (fun v => v) n 0) := by
    intro d
    induction d with
    | zero =>
      intro L hLd fuel hf ρ hfr hl
      obtain ⟨fuel, rfl⟩ : ∃ z, fuel = z + 1 := ⟨fuel - 1, by omega⟩
      have h2 : ρ.1 2 = nI m := (hfr.net hx).2.2.1
      have e : L = m := by omega
      subst e
      rw [TL_catchUp_5_s, h2, if_pos (nI_le (by omega) (by omega))]
      unfold TL_catchUp_60 lt
      rw [h2]
      exact ⟨ρ, rfl, hfr, hl⟩
    | succ d ih =>
      intro L hLd fuel hf ρ hfr hl
      obtain ⟨fuel, rfl⟩ : ∃ z, fuel = z + 1 := ⟨fuel - 1, by omega⟩
      have nx := hfr.net hx
      rw [TL_catchUp_5_s, nx.2.2.1, if_neg (nI_ge (by omega) (by omega))]
      obtain ⟨σ1, g1, g2, g3, g4, g5⟩ := TL_row_ok hw (N := N) (TL_catchUp_44 N (TL_catchUp_5 N (TL_catchUp_60 N) fuel)) (nI L) nx.1 n 0 (by omega) N (by omega) ρ rfl rfl (fun _ _ => rfl) (fun u hu => absurd hu (Nat.not_lt_zero u))
      have fr1 : FrT ρ σ1 := ⟨fun k _ => by rw [g3], fun k _ _ k3 => g5 k k3, fun k _ => by rw [g4]⟩
      have ek : ∀ e, e < L + 1 → fr e < n ∧ to e < n ∧ fr e ≠ to e := fun e he => ⟨(hE e (by omega)).1, (hE e (by omega)).2.1, (hE e (by omega)).2.2.1⟩
      obtain ⟨σ2, p1, p2, p3, -⟩ := TL_grow_ok hw hN 8 0 n (by omega) hn2 (by omega) (L + 1) L 0 0 (fun v => v) [] σ1 (by omega) (by omega) (by rw [Nat.mul_zero]) (by rw [Nat.zero_add]; exact Nat.pow_le_pow_right (by decide) (by omega)) (fr1.net nx) g2 (fun t ht => absurd ht List.not_mem_nil) (TLR_keep hl g3 g4 g5) (most hn2 hn8 (by omega) ek) (Or.inl (by omega))
      rw [show (0 : Int32) = nI 0 from rfl, g1]
      unfold TL_catchUp_44
      rw [nI_1, show (0 : Int32) = nI 0 from rfl, bnd_t p1]
      exact ih (L + 1) (by omega) fuel (by omega) σ2 ((hfr.trans fr1).trans p3) p2
  unfold TL_catchUp
  rw [h16]
  obtain ⟨σ1, e, hf, ht⟩ := loop (m - L) L (by omega) N (by omega) σ (FrT.rfl' σ) hl
  refine ⟨_, e, ?_, si_same _ _ _, fun k k1 k2 => by rw [si_ne _ _ k2]; exact hf.1 k k1, hf.2.1, hf.2.2⟩
  obtain ⟨a1, a2⟩ := ht
  exact ⟨by rw [si_ne _ _ (by decide)]; exact a1, a2⟩
end TCU
