/-! one pass of the class's sort -/
theorem sort_RS_ok {σ : St} {K : Nat} (hK : K ≤ 1280) (h18 : σ.1 18 = nI K) {A : Nat → Nat} (hA : ∀ i, i < K → σ.2.1 14 i = nI (A i) ∧ A i < 2 ^ 31) {s : Nat} (hs : s < 32) {N : Nat} (hN : 1300 ≤ N) : ∃ σ', GT_sortRS N (nI s) σ = some σ' ∧ (∀ i, i < K → σ'.2.1 15 (posK (fun j => A j / 2 ^ s % 128) K i) = nI (A i)) ∧ σ'.1 = σ.1 ∧ σ'.2.2 = σ.2.2 ∧ (∀ k, k ≠ 15 → k ≠ 16 → σ'.2.1 k = σ.2.1 k) := by
  obtain ⟨d, hd⟩ : ∃ d : Nat → Nat, d = fun j => A j / 2 ^ s % 128 := ⟨_, rfl⟩
  rw [← hd]
  have dlt : ∀ i, d i < 128 := fun i => by rw [hd]; exact Nat.mod_lt _ (by decide)
  have dig : ∀ i, i < K → nI (A i) >>> (nI s &&& 31) &&& 127 = nI (d i) := fun i hi => by
    rw [shr_nI (hA i hi).2 hs, show (127 : Int32) = nI (2 ^ 7 - 1) from rfl, fa_mask, hd]
  -- the last: each to its place
  have third : ∀ (q i : Nat), i + q = K → ∀ fuel, q < fuel → ∀ ρ : St, ρ.1 = σ.1 → ρ.2.2 = σ.2.2 → (∀ k, k ≠ 15 → k ≠ 16 → ρ.2.1 k = σ.2.1 k) → (∀ c, c < 128 → ρ.2.1 16 c = nI (strt d K c + eqs d c i)) → (∀ j, j < i → ρ.2.1 15 (posK d K j) = nI (A j)) → ∃ σ', GT_sortRS_92 N fuel (nI s) (nI i) ρ = some σ' ∧ (∀ i, i < K → σ'.2.1 15 (posK d K i) = nI (A i)) ∧ σ'.1 = σ.1 ∧ σ'.2.2 = σ.2.2 ∧ (∀ k, k ≠ 15 → k ≠ 16 → σ'.2.1 k = σ.2.1 k) := by
    intro q
    induction q with
    | zero =>
      intro i hi fuel hf ρ r1 r2 r3 r4 r5
      obtain ⟨fuel, rfl⟩ : ∃ z, fuel = z + 1 := ⟨fuel - 1, by omega⟩
      rw [GT_sortRS_92_s, r1, h18, if_pos (nI_le (by omega) (by omega))]
      exact ⟨ρ, rfl, fun j hj => r5 j (by omega), r1, r2, r3⟩
    | succ q ih =>
      intro i hi fuel hf ρ r1 r2 r3 r4 r5
      obtain ⟨fuel, rfl⟩ : ∃ z, fuel = z + 1 := ⟨fuel - 1, by omega⟩
      have hAi : ρ.2.1 14 i = nI (A i) := by rw [r3 14 (by decide) (by decide)]; exact (hA i (by omega)).1
      have gi : inb (nI i) 1280 = true := inb_nI (by omega) (by decide)
      have gd : inb (nI (d i)) 128 = true := inb_nI (dlt i) (by decide)
      have hp : posK d K i < K := posK_lt (by omega)
      have he : strt d K (d i) + eqs d (d i) i = posK d K i := (posK_eq (by omega)).symm
      have di := dlt i
      rw [GT_sortRS_92_s, r1, h18, if_neg (nI_ge (by omega) (by omega)), grd_t gi, nI_clamp (by omega), hAi, dig i (by omega)]
      unfold lt
      dsimp only
      rw [grd_t gd, grd_t gi, nI_clamp (by omega), r4 _ di, he, grd_t (inb_nI (by omega) (by decide)), nI_clamp (by omega), grd_t gd, grd_t gd, nI_1, sa_ne (j := 16) (k := 15) _ _ _ (by decide), r4 _ di, he, nI_1]
      refine ih (i + 1) (by omega) fuel (by omega) _ r1 r2 (fun k k1 k2 => by rw [sa_ne _ _ _ k2, sa_ne _ _ _ k1]; exact r3 k k1 k2) (fun c hc => ?_) (fun j hj => ?_)
      · rw [sa_same, eqs_succ]
        by_cases e : c = d i
        · rw [e, upd_s, if_pos rfl, ← Nat.add_assoc, he]
        · rw [upd_n _ _ e, if_neg (Ne.symm e), Nat.add_zero, sa_ne (j := 16) (k := 15) _ _ _ (by decide)]
          exact r4 c hc
      · rw [sa_ne (j := 15) (k := 16) _ _ _ (by decide), sa_same]
        by_cases e : j = i
        · rw [e, upd_s]
        · rw [upd_n _ _ (fun z => e (posK_inj (by omega) (by omega) z))]
          exact r5 j (by omega)
  have second : ∀ (q c : Nat), c + q = 128 → ∀ fuel, q < fuel → ∀ ρ : St, ρ.1 = σ.1 → ρ.2.2 = σ.2.2 → (∀ k, k ≠ 16 → ρ.2.1 k = σ.2.1 k) → (∀ b, b < 128 → ρ.2.1 16 b = if b < c then nI (strt d K b) else nI (eqs d b K)) → ∃ σ', GT_sortRS_50 N (GT_sortRS_92 N N) fuel (nI s) (nI (strt d K c)) (nI c) ρ = some σ' ∧ (∀ i, i < K → σ'.2.1 15 (posK d K i) = nI (A i)) ∧ σ'.1 = σ.1 ∧ σ'.2.2 = σ.2.2 ∧ (∀ k, k ≠ 15 → k ≠ 16 → σ'.2.1 k = σ.2.1 k) := by
    intro q
    induction q with
    | zero =>
      intro c hc fuel hf ρ r1 r2 r3 r4
      obtain ⟨fuel, rfl⟩ : ∃ z, fuel = z + 1 := ⟨fuel - 1, by omega⟩
      rw [GT_sortRS_50_s, if_pos (show (128 : Int32) ≤ nI c from nI_le (a := 128) (by omega) (by omega))]
      refine third K 0 (by omega) N (by omega) ρ r1 r2 (fun k _ k2 => r3 k k2) (fun b hb => ?_) (fun j hj => absurd hj (Nat.not_lt_zero j))
      rw [r4 b hb, if_pos (by omega)]
      rfl
    | succ q ih =>
      intro c hc fuel hf ρ r1 r2 r3 r4
      obtain ⟨fuel, rfl⟩ : ∃ z, fuel = z + 1 := ⟨fuel - 1, by omega⟩
      have gc : inb (nI c) 128 = true := inb_nI (by omega) (by decide)
      rw [GT_sortRS_50_s, if_neg (show ¬ (128 : Int32) ≤ nI c from nI_ge (b := 128) (by omega) (by decide)), grd_t gc]
      unfold lt
      dsimp only
      rw [grd_t gc, nI_clamp (by omega), r4 c (by omega), if_neg (Nat.lt_irrefl c), nI_add, ← strt_succ, nI_1]
      refine ih (c + 1) (by omega) fuel (by omega) _ r1 r2 (fun k hk => by rw [sa_ne _ _ _ hk]; exact r3 k hk) (fun b hb => ?_)
      rw [sa_same]
      by_cases e : b = c
      · rw [e, upd_s, if_pos (Nat.lt_succ_self c)]
      · rw [upd_n _ _ e, r4 b hb]
        by_cases y : b < c
        · rw [if_pos y, if_pos (by omega)]
        · rw [if_neg y, if_neg (by omega)]
  have first : ∀ (q i : Nat), i + q = K → ∀ fuel, q < fuel → ∀ ρ : St, ρ.1 = σ.1 → ρ.2.2 = σ.2.2 → (∀ k, k ≠ 16 → ρ.2.1 k = σ.2.1 k) → (∀ c, c < 128 → ρ.2.1 16 c = nI (eqs d c i)) → ∃ σ', GT_sortRS_11 N (GT_sortRS_44 N) fuel (nI s) (nI i) ρ = some σ' ∧ (∀ i, i < K → σ'.2.1 15 (posK d K i) = nI (A i)) ∧ σ'.1 = σ.1 ∧ σ'.2.2 = σ.2.2 ∧ (∀ k, k ≠ 15 → k ≠ 16 → σ'.2.1 k = σ.2.1 k) := by
    intro q
    induction q with
    | zero =>
      intro i hi fuel hf ρ r1 r2 r3 r4
      obtain ⟨fuel, rfl⟩ : ∃ z, fuel = z + 1 := ⟨fuel - 1, by omega⟩
      have e : i = K := by omega
      rw [GT_sortRS_11_s, r1, h18, if_pos (nI_le (by omega) (by omega))]
      unfold GT_sortRS_44
      have := second 128 0 (by omega) N (by omega) ρ r1 r2 r3 (fun b hb => by rw [if_neg (Nat.not_lt_zero b), r4 b hb, e])
      rw [strt_zero] at this
      exact this
    | succ q ih =>
      intro i hi fuel hf ρ r1 r2 r3 r4
      obtain ⟨fuel, rfl⟩ : ∃ z, fuel = z + 1 := ⟨fuel - 1, by omega⟩
      have hAi : ρ.2.1 14 i = nI (A i) := by rw [r3 14 (by decide)]; exact (hA i (by omega)).1
      have gd : inb (nI (d i)) 128 = true := inb_nI (dlt i) (by decide)
      have di := dlt i
      rw [GT_sortRS_11_s, r1, h18, if_neg (nI_ge (by omega) (by omega)), grd_t (inb_nI (by omega) (by decide)), nI_clamp (by omega), hAi, dig i (by omega), grd_t gd, grd_t gd, nI_clamp (by omega), r4 _ di, nI_1, nI_1]
      unfold lt
      refine ih (i + 1) (by omega) fuel (by omega) _ r1 r2 (fun k hk => by rw [sa_ne _ _ _ hk]; exact r3 k hk) (fun c hc => ?_)
      rw [sa_same, eqs_succ]
      by_cases e : c = d i
      · rw [e, upd_s, if_pos rfl]
      · rw [upd_n _ _ e, if_neg (Ne.symm e), Nat.add_zero]
        exact r4 c hc
  unfold GT_sortRS lt
  refine first K 0 (by omega) N (by omega) (fillI σ 16 128 0) rfl rfl (fun k hk => up_n _ _ hk) (fun c hc => ?_)
  have e0 : eqs d c 0 = 0 := rfl
  rw [e0]
  show (if c < 128 then (0 : Int32) else σ.2.1 16 c) = _
  rw [if_pos hc]
  rfl
theorem sort_SR_ok {σ : St} {K : Nat} (hK : K ≤ 1280) (h18 : σ.1 18 = nI K) {A : Nat → Nat} (hA : ∀ i, i < K → σ.2.1 15 i = nI (A i) ∧ A i < 2 ^ 31) {s : Nat} (hs : s < 32) {N : Nat} (hN : 1300 ≤ N) : ∃ σ', GT_sortSR N (nI s) σ = some σ' ∧ (∀ i, i < K → σ'.2.1 14 (posK (fun j => A j / 2 ^ s % 128) K i) = nI (A i)) ∧ σ'.1 = σ.1 ∧ σ'.2.2 = σ.2.2 ∧ (∀ k, k ≠ 14 → k ≠ 16 → σ'.2.1 k = σ.2.1 k) := by
  obtain ⟨d, hd⟩ : ∃ d : Nat → Nat, d = fun j => A j / 2 ^ s % 128 := ⟨_, rfl⟩
  rw [← hd]
  have dlt : ∀ i, d i < 128 := fun i => by rw [hd]; exact Nat.mod_lt _ (by decide)
  have dig : ∀ i, i < K → nI (A i) >>> (nI s &&& 31) &&& 127 = nI (d i) := fun i hi => by
    rw [shr_nI (hA i hi).2 hs, show (127 : Int32) = nI (2 ^ 7 - 1) from rfl, fa_mask, hd]
  -- the last: each to its place
  have third : ∀ (q i : Nat), i + q = K → ∀ fuel, q < fuel → ∀ ρ : St, ρ.1 = σ.1 → ρ.2.2 = σ.2.2 → (∀ k, k ≠ 14 → k ≠ 16 → ρ.2.1 k = σ.2.1 k) → (∀ c, c < 128 → ρ.2.1 16 c = nI (strt d K c + eqs d c i)) → (∀ j, j < i → ρ.2.1 14 (posK d K j) = nI (A j)) → ∃ σ', GT_sortSR_92 N fuel (nI s) (nI i) ρ = some σ' ∧ (∀ i, i < K → σ'.2.1 14 (posK d K i) = nI (A i)) ∧ σ'.1 = σ.1 ∧ σ'.2.2 = σ.2.2 ∧ (∀ k, k ≠ 14 → k ≠ 16 → σ'.2.1 k = σ.2.1 k) := by
    intro q
    induction q with
    | zero =>
      intro i hi fuel hf ρ r1 r2 r3 r4 r5
      obtain ⟨fuel, rfl⟩ : ∃ z, fuel = z + 1 := ⟨fuel - 1, by omega⟩
      rw [GT_sortSR_92_s, r1, h18, if_pos (nI_le (by omega) (by omega))]
      exact ⟨ρ, rfl, fun j hj => r5 j (by omega), r1, r2, r3⟩
    | succ q ih =>
      intro i hi fuel hf ρ r1 r2 r3 r4 r5
      obtain ⟨fuel, rfl⟩ : ∃ z, fuel = z + 1 := ⟨fuel - 1, by omega⟩
      have hAi : ρ.2.1 15 i = nI (A i) := by rw [r3 15 (by decide) (by decide)]; exact (hA i (by omega)).1
      have gi : inb (nI i) 1280 = true := inb_nI (by omega) (by decide)
      have gd : inb (nI (d i)) 128 = true := inb_nI (dlt i) (by decide)
      have hp : posK d K i < K := posK_lt (by omega)
      have he : strt d K (d i) + eqs d (d i) i = posK d K i := (posK_eq (by omega)).symm
      have di := dlt i
      rw [GT_sortSR_92_s, r1, h18, if_neg (nI_ge (by omega) (by omega)), grd_t gi, nI_clamp (by omega), hAi, dig i (by omega)]
      unfold lt
      dsimp only
      rw [grd_t gd, grd_t gi, nI_clamp (by omega), r4 _ di, he, grd_t (inb_nI (by omega) (by decide)), nI_clamp (by omega), grd_t gd, grd_t gd, nI_1, sa_ne (j := 16) (k := 14) _ _ _ (by decide), r4 _ di, he, nI_1]
      refine ih (i + 1) (by omega) fuel (by omega) _ r1 r2 (fun k k1 k2 => by rw [sa_ne _ _ _ k2, sa_ne _ _ _ k1]; exact r3 k k1 k2) (fun c hc => ?_) (fun j hj => ?_)
      · rw [sa_same, eqs_succ]
        by_cases e : c = d i
        · rw [e, upd_s, if_pos rfl, ← Nat.add_assoc, he]
        · rw [upd_n _ _ e, if_neg (Ne.symm e), Nat.add_zero, sa_ne (j := 16) (k := 14) _ _ _ (by decide)]
          exact r4 c hc
      · rw [sa_ne (j := 14) (k := 16) _ _ _ (by decide), sa_same]
        by_cases e : j = i
        · rw [e, upd_s]
        · rw [upd_n _ _ (fun z => e (posK_inj (by omega) (by omega) z))]
          exact r5 j (by omega)
  have second : ∀ (q c : Nat), c + q = 128 → ∀ fuel, q < fuel → ∀ ρ : St, ρ.1 = σ.1 → ρ.2.2 = σ.2.2 → (∀ k, k ≠ 16 → ρ.2.1 k = σ.2.1 k) → (∀ b, b < 128 → ρ.2.1 16 b = if b < c then nI (strt d K b) else nI (eqs d b K)) → ∃ σ', GT_sortSR_50 N (GT_sortSR_92 N N) fuel (nI s) (nI (strt d K c)) (nI c) ρ = some σ' ∧ (∀ i, i < K → σ'.2.1 14 (posK d K i) = nI (A i)) ∧ σ'.1 = σ.1 ∧ σ'.2.2 = σ.2.2 ∧ (∀ k, k ≠ 14 → k ≠ 16 → σ'.2.1 k = σ.2.1 k) := by
    intro q
    induction q with
    | zero =>
      intro c hc fuel hf ρ r1 r2 r3 r4
      obtain ⟨fuel, rfl⟩ : ∃ z, fuel = z + 1 := ⟨fuel - 1, by omega⟩
      rw [GT_sortSR_50_s, if_pos (show (128 : Int32) ≤ nI c from nI_le (a := 128) (by omega) (by omega))]
      refine third K 0 (by omega) N (by omega) ρ r1 r2 (fun k _ k2 => r3 k k2) (fun b hb => ?_) (fun j hj => absurd hj (Nat.not_lt_zero j))
      rw [r4 b hb, if_pos (by omega)]
      rfl
    | succ q ih =>
      intro c hc fuel hf ρ r1 r2 r3 r4
      obtain ⟨fuel, rfl⟩ : ∃ z, fuel = z + 1 := ⟨fuel - 1, by omega⟩
      have gc : inb (nI c) 128 = true := inb_nI (by omega) (by decide)
      rw [GT_sortSR_50_s, if_neg (show ¬ (128 : Int32) ≤ nI c from nI_ge (b := 128) (by omega) (by decide)), grd_t gc]
      unfold lt
      dsimp only
      rw [grd_t gc, nI_clamp (by omega), r4 c (by omega), if_neg (Nat.lt_irrefl c), nI_add, ← strt_succ, nI_1]
      refine ih (c + 1) (by omega) fuel (by omega) _ r1 r2 (fun k hk => by rw [sa_ne _ _ _ hk]; exact r3 k hk) (fun b hb => ?_)
      rw [sa_same]
      by_cases e : b = c
      · rw [e, upd_s, if_pos (Nat.lt_succ_self c)]
      · rw [upd_n _ _ e, r4 b hb]
        by_cases y : b < c
        · rw [if_pos y, if_pos (by omega)]
        · rw [if_neg y, if_neg (by omega)]
  have first : ∀ (q i : Nat), i + q = K → ∀ fuel, q < fuel → ∀ ρ : St, ρ.1 = σ.1 → ρ.2.2 = σ.2.2 → (∀ k, k ≠ 16 → ρ.2.1 k = σ.2.1 k) → (∀ c, c < 128 → ρ.2.1 16 c = nI (eqs d c i)) → ∃ σ', GT_sortSR_11 N (GT_sortSR_44 N) fuel (nI s) (nI i) ρ = some σ' ∧ (∀ i, i < K → σ'.2.1 14 (posK d K i) = nI (A i)) ∧ σ'.1 = σ.1 ∧ σ'.2.2 = σ.2.2 ∧ (∀ k, k ≠ 14 → k ≠ 16 → σ'.2.1 k = σ.2.1 k) := by
    intro q
    induction q with
    | zero =>
      intro i hi fuel hf ρ r1 r2 r3 r4
      obtain ⟨fuel, rfl⟩ : ∃ z, fuel = z + 1 := ⟨fuel - 1, by omega⟩
      have e : i = K := by omega
      rw [GT_sortSR_11_s, r1, h18, if_pos (nI_le (by omega) (by omega))]
      unfold GT_sortSR_44
      have := second 128 0 (by omega) N (by omega) ρ r1 r2 r3 (fun b hb => by rw [if_neg (Nat.not_lt_zero b), r4 b hb, e])
      rw [strt_zero] at this
      exact this
    | succ q ih =>
      intro i hi fuel hf ρ r1 r2 r3 r4
      obtain ⟨fuel, rfl⟩ : ∃ z, fuel = z + 1 := ⟨fuel - 1, by omega⟩
      have hAi : ρ.2.1 15 i = nI (A i) := by rw [r3 15 (by decide)]; exact (hA i (by omega)).1
      have gd : inb (nI (d i)) 128 = true := inb_nI (dlt i) (by decide)
      have di := dlt i
      rw [GT_sortSR_11_s, r1, h18, if_neg (nI_ge (by omega) (by omega)), grd_t (inb_nI (by omega) (by decide)), nI_clamp (by omega), hAi, dig i (by omega), grd_t gd, grd_t gd, nI_clamp (by omega), r4 _ di, nI_1, nI_1]
      unfold lt
      refine ih (i + 1) (by omega) fuel (by omega) _ r1 r2 (fun k hk => by rw [sa_ne _ _ _ hk]; exact r3 k hk) (fun c hc => ?_)
      rw [sa_same, eqs_succ]
      by_cases e : c = d i
      · rw [e, upd_s, if_pos rfl]
      · rw [upd_n _ _ e, if_neg (Ne.symm e), Nat.add_zero]
        exact r4 c hc
  unfold GT_sortSR lt
  refine first K 0 (by omega) N (by omega) (fillI σ 16 128 0) rfl rfl (fun k hk => up_n _ _ hk) (fun c hc => ?_)
  have e0 : eqs d c 0 = 0 := rfl
  rw [e0]
  show (if c < 128 then (0 : Int32) else σ.2.1 16 c) = _
  rw [if_pos hc]
  rfl
