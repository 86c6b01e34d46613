/-! the reference sorts its good trees -/
def MOR (τ : St) (K : Nat) (d : Nat → Nat) : Prop := ∀ i, i < K → τ.2.1 15 (posK d K i) = nI i
theorem M_sorts_ok {τ : St} {K : Nat} (hK : K ≤ 1280) (h10 : τ.1 10 = nI K) {d : Nat → Nat} (hd : ∀ i, i < K → τ.2.1 12 i = nI (d i) ∧ d i < 6999) {N : Nat} (hN : 7100 ≤ N) : ∃ τ', M_sorts N τ = some τ' ∧ MOR τ' K d ∧ τ'.1 = τ.1 ∧ (∀ k, k ≠ 15 → k ≠ 16 → τ'.2.1 k = τ.2.1 k) := by
  have fourth : ∀ (q i : Nat), i + q = K → ∀ fuel, q < fuel → ∀ ρ : St, ρ.1 = τ.1 → (∀ k, k ≠ 15 → k ≠ 16 → ρ.2.1 k = τ.2.1 k) → (∀ b, b < 7000 → ρ.2.1 16 b = nI (strt d K b + eqs d b i)) → (∀ j, j < i → ρ.2.1 15 (posK d K j) = nI j) → ∃ τ', M_sorts_89 N fuel (nI i) ρ = some τ' ∧ MOR τ' K d ∧ τ'.1 = τ.1 ∧ (∀ k, k ≠ 15 → k ≠ 16 → τ'.2.1 k = τ.2.1 k) := by
    intro q
    induction q with
    | zero =>
      intro i hi fuel hf ρ r1 r2 r3 r4
      obtain ⟨fuel, rfl⟩ : ∃ z, fuel = z + 1 := ⟨fuel - 1, by omega⟩
      rw [M_sorts_89_s, r1, h10, if_pos (nI_le (by omega) (by omega))]
      exact ⟨ρ, rfl, fun j hj => r4 j (by omega), r1, r2⟩
    | succ q ih =>
      intro i hi fuel hf ρ r1 r2 r3 r4
      obtain ⟨fuel, rfl⟩ : ∃ z, fuel = z + 1 := ⟨fuel - 1, by omega⟩
      obtain ⟨d1, d2⟩ := hd i (by omega)
      have gi : inb (nI i) 3432 = true := inb_nI (by omega) (by decide)
      have gd : inb (nI (d i)) 7000 = true := inb_nI (by omega) (by decide)
      have hp : posK d K i < K := posK_lt (by omega)
      have he : strt d K (d i) + eqs d (d i) i = posK d K i := (posK_eq (by omega)).symm
      rw [M_sorts_89_s, r1, h10, if_neg (nI_ge (by omega) (by omega)), grd_t gi, nI_clamp (by omega), r2 12 (by decide) (by decide), d1, grd_t gd, nI_clamp (by omega), r3 _ (by omega), he, grd_t (inb_nI (by omega) (by decide)), nI_clamp (by omega)]
      unfold lt
      dsimp only
      rw [grd_t gi, sa_ne (j := 12) (k := 15) _ _ _ (by decide), r2 12 (by decide) (by decide), d1, grd_t gd, grd_t gd, nI_clamp (by omega), sa_ne (j := 16) (k := 15) _ _ _ (by decide), r3 _ (by omega), he, nI_1, nI_1]
      refine ih (i + 1) (by omega) fuel (by omega) _ r1 (fun k k1 k2 => by rw [sa_ne _ _ _ k2, sa_ne _ _ _ k1]; exact r2 k k1 k2) (fun c hc => ?_) (fun j hj => ?_)
      · rw [sa_same, eqs_succ]
        by_cases e : c = d i
        · rw [e, upd_s, if_pos rfl, ← Nat.add_assoc, he]
        · rw [upd_n _ _ e, if_neg (Ne.symm e), Nat.add_zero, sa_ne (j := 16) (k := 15) _ _ _ (by decide)]
          exact r3 c hc
      · rw [sa_ne (j := 15) (k := 16) _ _ _ (by decide), sa_same]
        by_cases e : j = i
        · rw [e, upd_s]
        · rw [upd_n _ _ (fun z => e (posK_inj (by omega) (by omega) z))]
          exact r4 j (by omega)
  have third : ∀ (q c : Nat), c + q = 7000 → 1 ≤ c → ∀ fuel, q < fuel → ∀ ρ : St, ρ.1 = τ.1 → (∀ k, k ≠ 16 → ρ.2.1 k = τ.2.1 k) → (∀ b, b < 7000 → ρ.2.1 16 b = if b < c then nI (strt d K b) else nI (eqs d (b - 1) K)) → ∃ τ', M_sorts_57 N (M_sorts_89 N N) fuel (nI c) ρ = some τ' ∧ MOR τ' K d ∧ τ'.1 = τ.1 ∧ (∀ k, k ≠ 15 → k ≠ 16 → τ'.2.1 k = τ.2.1 k) := by
    intro q
    induction q with
    | zero =>
      intro c hc h1 fuel hf ρ r1 r2 r3
      obtain ⟨fuel, rfl⟩ : ∃ z, fuel = z + 1 := ⟨fuel - 1, by omega⟩
      rw [M_sorts_57_s, if_pos (show (7000 : Int32) ≤ nI c from nI_le (a := 7000) (by omega) (by omega))]
      refine fourth K 0 (by omega) N (by omega) ρ r1 (fun k _ k2 => r2 k k2) (fun b hb => ?_) (fun j hj => absurd hj (Nat.not_lt_zero j))
      rw [r3 b hb, if_pos (by omega)]
      rfl
    | succ q ih =>
      intro c hc h1 fuel hf ρ r1 r2 r3
      obtain ⟨fuel, rfl⟩ : ∃ z, fuel = z + 1 := ⟨fuel - 1, by omega⟩
      have gc : inb (nI c) 7000 = true := inb_nI (by omega) (by decide)
      have ec : nI c - 1 = nI (c - 1) := by rw [show (1 : Int32) = nI 1 from rfl, nI_sub h1]
      rw [M_sorts_57_s, if_neg (show ¬ (7000 : Int32) ≤ nI c from nI_ge (b := 7000) (by omega) (by decide)), grd_t gc, ec, grd_t (inb_nI (by omega) (by decide)), grd_t gc, nI_clamp (by omega), nI_clamp (by omega), r3 c (by omega), if_neg (Nat.lt_irrefl c), r3 (c - 1) (by omega), if_pos (by omega), nI_add, Nat.add_comm (eqs d (c - 1) K), ← strt_succ, Nat.sub_add_cancel h1, nI_1]
      unfold lt
      refine ih (c + 1) (by omega) (by omega) fuel (by omega) _ r1 (fun k hk => by rw [sa_ne _ _ _ hk]; exact r2 k hk) (fun b hb => ?_)
      rw [sa_same]
      by_cases e : b = c
      · rw [e, upd_s, if_pos (Nat.lt_succ_self c)]
      · rw [upd_n _ _ e, r3 b hb]
        by_cases y : b < c
        · rw [if_pos y, if_pos (by omega)]
        · rw [if_neg y, if_neg (by omega)]
  have second : ∀ (q i : Nat), i + q = K → ∀ fuel, q < fuel → ∀ ρ : St, ρ.1 = τ.1 → (∀ k, k ≠ 16 → ρ.2.1 k = τ.2.1 k) → (∀ b, b < 7000 → ρ.2.1 16 b = nI (if b = 0 then 0 else eqs d (b - 1) i)) → ∃ τ', M_sorts_24 N (M_sorts_57 N (M_sorts_89 N N) N) fuel (nI i) ρ = some τ' ∧ MOR τ' K d ∧ τ'.1 = τ.1 ∧ (∀ k, k ≠ 15 → k ≠ 16 → τ'.2.1 k = τ.2.1 k) := by
    intro q
    induction q with
    | zero =>
      intro i hi fuel hf ρ r1 r2 r3
      obtain ⟨fuel, rfl⟩ : ∃ z, fuel = z + 1 := ⟨fuel - 1, by omega⟩
      have e : i = K := by omega
      rw [M_sorts_24_s, r1, h10, if_pos (nI_le (by omega) (by omega))]
      refine third 6999 1 (by omega) (by omega) N (by omega) ρ r1 r2 (fun b hb => ?_)
      rw [r3 b hb, e]
      by_cases z : b = 0
      · rw [if_pos z, if_pos (by omega), z, strt_zero]
      · rw [if_neg z, if_neg (by omega)]
    | succ q ih =>
      intro i hi fuel hf ρ r1 r2 r3
      obtain ⟨fuel, rfl⟩ : ∃ z, fuel = z + 1 := ⟨fuel - 1, by omega⟩
      obtain ⟨d1, d2⟩ := hd i (by omega)
      have gd : inb (nI (d i + 1)) 7000 = true := inb_nI (by omega) (by decide)
      rw [M_sorts_24_s, r1, h10, if_neg (nI_ge (by omega) (by omega)), grd_t (inb_nI (by omega) (by decide)), nI_clamp (by omega), r2 12 (by decide), d1, nI_1 (d i), grd_t gd, grd_t gd, nI_clamp (by omega), r3 _ (by omega), nI_1, nI_1]
      unfold lt
      refine ih (i + 1) (by omega) fuel (by omega) _ r1 (fun k hk => by rw [sa_ne _ _ _ hk]; exact r2 k hk) (fun b hb => ?_)
      rw [sa_same]
      by_cases e : b = d i + 1
      · rw [e, upd_s, if_neg (Nat.succ_ne_zero _), if_neg (Nat.succ_ne_zero _), Nat.add_sub_cancel, eqs_succ, if_pos rfl]
      · rw [upd_n _ _ e, r3 b hb]
        by_cases z : b = 0
        · rw [if_pos z, if_pos z]
        · rw [if_neg z, if_neg z, eqs_succ, if_neg (by omega), Nat.add_zero]
  have first : ∀ (q b : Nat), b + q = 7000 → ∀ fuel, q < fuel → ∀ ρ : St, ρ.1 = τ.1 → (∀ k, k ≠ 16 → ρ.2.1 k = τ.2.1 k) → (∀ a, a < b → ρ.2.1 16 a = 0) → ∃ τ', M_sorts_2 N (M_sorts_24 N (M_sorts_57 N (M_sorts_89 N N) N) N) fuel (nI b) ρ = some τ' ∧ MOR τ' K d ∧ τ'.1 = τ.1 ∧ (∀ k, k ≠ 15 → k ≠ 16 → τ'.2.1 k = τ.2.1 k) := by
    intro q
    induction q with
    | zero =>
      intro b hb fuel hf ρ r1 r2 r3
      obtain ⟨fuel, rfl⟩ : ∃ z, fuel = z + 1 := ⟨fuel - 1, by omega⟩
      rw [M_sorts_2_s, if_pos (show (7000 : Int32) ≤ nI b from nI_le (a := 7000) (by omega) (by omega))]
      refine second K 0 (by omega) N (by omega) ρ r1 r2 (fun a ha => ?_)
      rw [r3 a (by omega)]
      by_cases z : a = 0
      · rw [if_pos z]; rfl
      · rw [if_neg z]; rfl
    | succ q ih =>
      intro b hb fuel hf ρ r1 r2 r3
      obtain ⟨fuel, rfl⟩ : ∃ z, fuel = z + 1 := ⟨fuel - 1, by omega⟩
      rw [M_sorts_2_s, if_neg (show ¬ (7000 : Int32) ≤ nI b from nI_ge (b := 7000) (by omega) (by decide)), grd_t (inb_nI (by omega) (by decide)), nI_clamp (by omega), nI_1]
      unfold lt
      refine ih (b + 1) (by omega) fuel (by omega) _ r1 (fun k hk => by rw [sa_ne _ _ _ hk]; exact r2 k hk) (fun a ha => ?_)
      rw [sa_same]
      by_cases e : a = b
      · rw [e, upd_s]
      · rw [upd_n _ _ e]; exact r3 a (by omega)
  unfold M_sorts
  exact first 7000 0 (by omega) N (by omega) τ rfl (fun _ _ => rfl) (fun a ha => absurd ha (Nat.not_lt_zero a))
