/-! the call for the trees that no other beats -/
def Lx (c w : Nat → Nat) (i k : Nat) : Prop := c i < c k ∨ (c i = c k ∧ (w i < w k ∨ (w i = w k ∧ i ≤ k)))
def FM (c w : Nat → Nat) (K : Nat) : Nat → Nat → Prop
  | 0, i => i < K ∧ ∀ k, k < K → Lx c w i k
  | s + 1, i => ∃ b, FM c w K s b ∧ i < K ∧ w i < w b ∧ ∀ k, k < K → w k < w b → Lx c w i k
theorem FM_lt {c w : Nat → Nat} {K s i : Nat} (h : FM c w K s i) : i < K := by
  cases s with
  | zero => exact h.1
  | succ s => obtain ⟨b, -, h, -⟩ := h; exact h
theorem FM_one {c w : Nat → Nat} {K : Nat} : ∀ {s i j : Nat}, FM c w K s i → FM c w K s j → i = j
  | 0, i, j, ⟨h1, h2⟩, ⟨h3, h4⟩ => by
    have a := h2 j h3
    have b := h4 i h1
    unfold Lx at a b
    omega
  | s + 1, i, j, ⟨b, h0, h1, h2, h3⟩, ⟨b', g0, g1, g2, g3⟩ => by
    have e := FM_one h0 g0
    subst e
    have a := h3 j g1 g2
    have b := g3 i h1 h2
    unfold Lx at a b
    omega
def FQ (c w : Nat → Nat) (K q : Nat) : Nat → Nat → Prop
  | 0, i => ∀ j, j < K → posK c K j < q → Lx c w i j
  | s + 1, i => ∃ b, FM c w K s b ∧ w i < w b ∧ ∀ j, j < K → posK c K j < q → w j < w b → Lx c w i j
theorem FQ_end {c w : Nat → Nat} {K q s i : Nat} (hi : i < K) (h : FQ c w K q s i) (hl : ∀ j, j < K → q ≤ posK c K j → c i < c j) : FM c w K s i := by
  have all : ∀ j, j < K → (posK c K j < q → Lx c w i j) → Lx c w i j := fun j hj hh => by
    by_cases z : posK c K j < q
    · exact hh z
    · exact Or.inl (hl j hj (by omega))
  cases s with
  | zero => exact ⟨hi, fun j hj => all j hj (fun z => h j hj z)⟩
  | succ s =>
    obtain ⟨b, h1, h2, h3⟩ := h
    exact ⟨b, h1, hi, h2, fun j hj hw => all j hj (fun z => h3 j hj z hw)⟩
theorem FQ_new {c w : Nat → Nat} {K q s i y : Nat} (h : FQ c w K q s i) (hy : Lx c w y i) (hyw : w y ≤ w i) (hle : ∀ j, j < K → posK c K j < q + 1 → posK c K j < q ∨ j = y) : FQ c w K (q + 1) s y := by
  have tr : ∀ j, Lx c w i j → Lx c w y j := fun j hj => by unfold Lx at *; omega
  have rf : Lx c w y y := by unfold Lx; omega
  cases s with
  | zero =>
    intro j hj hp
    rcases hle j hj hp with z | z
    · exact tr j (h j hj z)
    · rw [z]; exact rf
  | succ s =>
    obtain ⟨b, h1, h2, h3⟩ := h
    refine ⟨b, h1, by omega, fun j hj hp hw => ?_⟩
    rcases hle j hj hp with z | z
    · exact tr j (h3 j hj z hw)
    · rw [z]; exact rf
theorem FQ_keep {c w : Nat → Nat} {K q s i y : Nat} (h : FQ c w K q s i) (hy : Lx c w i y) (hle : ∀ j, j < K → posK c K j < q + 1 → posK c K j < q ∨ j = y) : FQ c w K (q + 1) s i := by
  cases s with
  | zero =>
    intro j hj hp
    rcases hle j hj hp with z | z
    · exact h j hj z
    · rw [z]; exact hy
  | succ s =>
    obtain ⟨b, h1, h2, h3⟩ := h
    refine ⟨b, h1, h2, fun j hj hp hw => ?_⟩
    rcases hle j hj hp with z | z
    · exact h3 j hj z hw
    · rw [z]; exact hy
def FE (c w P : Nat → Nat) (K k : Nat) (r : Int32) : Prop := (∃ i, r = nI (P i) ∧ FM c w K k i ∧ k < K) ∨ (r = -1 ∧ (K = 0 ∨ ∃ s i, s < k ∧ s < K ∧ FM c w K s i ∧ ∀ j, j < K → ¬ w j < w i))
def FC (c w P : Nat → Nat) (K k q : Nat) (x2 x3 : Int32) : Prop := (q = 0 ∧ x2 = -1 ∧ x3 = -1) ∨ ∃ s i, i < K ∧ s < q ∧ s ≤ k ∧ x2 = nI s ∧ x3 = nI (P i) ∧ posK c K i < q ∧ (∀ j, j < K → posK c K j < q → w i ≤ w j) ∧ FQ c w K q s i
theorem placeOnFront_ok {N K k : Nat} {P c w : Nat → Nat} {σ2 : St} (hk : k < 2 ^ 31) (hK : K ≤ 1280) (hP : ∀ i, i < K → P i < 1280) (hr : RKR σ2 K P c) (h21 : σ2.1 21 = 1) (h18 : σ2.1 18 = nI K) (h7 : ∀ i, i < K → σ2.2.1 7 (P i) = nI (c i) ∧ c i < 2 ^ 31) (h10 : ∀ i, i < K → σ2.2.1 10 (P i) = nI (w i) ∧ w i < 2 ^ 31) : ∀ (d q : Nat), q + d = K → ∀ fuel, d < fuel → ∀ (s : St) (x2 x3 : Int32), GT_rank N s = some σ2 → s.1 18 = nI K → FC c w P K k q x2 x3 → ∃ r s', GT_placeOnFront_7 N (GT_placeOnFront_100 N) fuel (nI k) x2 x3 (nI q) s = some (r, s') ∧ (s' = s ∨ s' = σ2) ∧ FE c w P K k r := by
  intro d
  induction d with
  | zero =>
    intro q hq fuel hf s x2 x3 hs h18s hc
    obtain ⟨fuel, rfl⟩ : ∃ z, fuel = z + 1 := ⟨fuel - 1, by omega⟩
    rw [GT_placeOnFront_7_s, h18s, if_pos (nI_le (by omega) (by omega))]
    unfold GT_placeOnFront_100
    rcases hc with ⟨e, e2, e3⟩ | ⟨t, i, c1, c2, c3, c4, c5, c6, c7, c8⟩
    · rw [e2, if_neg (fun z => nI_m1 hk z.symm)]
      exact ⟨_, _, rfl, Or.inl rfl, Or.inr ⟨rfl, Or.inl (by omega)⟩⟩
    · have hfm : FM c w K t i := FQ_end c1 c8 (fun j hj hq' => by have := posK_lt (d := c) hj; omega)
      rw [c4]
      by_cases e : t = k
      · rw [if_pos (by rw [e])]
        subst e
        exact ⟨_, _, rfl, Or.inl rfl, Or.inl ⟨i, c5, hfm, by omega⟩⟩
      · rw [if_neg (fun z => e ((nI_eq (by omega) hk).mp z))]
        exact ⟨_, _, rfl, Or.inl rfl, Or.inr ⟨rfl, Or.inr ⟨t, i, by omega, by omega, hfm, fun j hj => by have := c7 j hj (by have := posK_lt (d := c) hj; omega); omega⟩⟩⟩
  | succ d ih =>
    intro q hq fuel hf s x2 x3 hs h18s hc
    obtain ⟨fuel, rfl⟩ : ∃ z, fuel = z + 1 := ⟨fuel - 1, by omega⟩
    obtain ⟨y, hy, hyq⟩ := posK_surj (d := c) (show q < K by omega)
    have hpr := placeRanked_ok hK hs hr hP hy
    rw [hyq] at hpr
    have g2 : GT_rank N σ2 = some σ2 := rank_again h21 N
    have py := hP y hy
    have hle : ∀ j, j < K → posK c K j < q + 1 → posK c K j < q ∨ j = y := fun j hj hp => by
      by_cases z : posK c K j < q
      · exact Or.inl z
      · exact Or.inr (posK_inj (d := c) hj hy (by omega))
    rw [GT_placeOnFront_7_s, h18s, if_neg (nI_ge (by omega) (by omega)), hpr]
    unfold bnd2
    dsimp only
    have fin : ∀ (x2 x3 : Int32), FC c w P K k (q + 1) x2 x3 → ∃ r s', GT_placeOnFront_7 N (GT_placeOnFront_100 N) fuel (nI k) x2 x3 (nI q + 1) σ2 = some (r, s') ∧ (s' = s ∨ s' = σ2) ∧ FE c w P K k r := fun x2 x3 h => by
      obtain ⟨r, s', a, b, e⟩ := ih (q + 1) (by omega) fuel (by omega) σ2 x2 x3 g2 h18 h
      rw [nI_1]
      exact ⟨r, s', a, Or.inr (by rcases b with z | z <;> exact z), e⟩
    rcases hc with ⟨e, e2, e3⟩ | ⟨t, i, c1, c2, c3, c4, c5, c6, c7, c8⟩
    · rw [if_pos e3]
      unfold GT_placeOnFront_54
      rw [if_pos e3, e2, if_neg (fun z => nI_m1 hk z.symm)]
      refine fin _ _ (Or.inr ⟨0, y, hy, by omega, by omega, by decide, rfl, by omega, fun j hj hp => ?_, fun j hj hp => ?_⟩)
      · rcases hle j hj hp with z | z
        · omega
        · rw [z]; exact Nat.le_refl _
      · rcases hle j hj hp with z | z
        · omega
        · rw [z]; unfold Lx; omega
    · have pi := hP i c1
      have hlex := posK_lex (d := c) c1 hy (by omega)
      rw [c5, if_neg (nI_m1 (by omega)), grd_t (inb_nI py (by decide)), grd_t (inb_nI pi (by decide)), nI_clamp (by omega), nI_clamp (by omega), (h10 y hy).1, (h10 i c1).1]
      by_cases hw : w y < w i
      · rw [if_pos (nI_lt hw (h10 i c1).2)]
        unfold GT_placeOnFront_54
        rw [if_neg (nI_m1 (by omega)), grd_t (inb_nI py (by decide)), grd_t (inb_nI pi (by decide)), nI_clamp (by omega), nI_clamp (by omega), (h7 y hy).1, (h7 i c1).1]
        have low : ∀ j, j < K → posK c K j < q + 1 → w y ≤ w j := fun j hj hp => by
          rcases hle j hj hp with z | z
          · have := c7 j hj z; omega
          · rw [z]; exact Nat.le_refl _
        by_cases hcy : c y ≤ c i
        · rw [if_pos (nI_le hcy (h7 i c1).2)]
          exact fin _ _ (Or.inr ⟨t, y, hy, by omega, c3, c4, rfl, by omega, low, FQ_new c8 (by unfold Lx; omega) (by omega) hle⟩)
        · rw [if_neg (nI_ge (by omega) (h7 y hy).2)]
          have hfm : FM c w K t i := FQ_end c1 c8 (fun j hj hq' => by
            by_cases z : posK c K j = q
            · rw [posK_inj (d := c) hj hy (by omega)]; omega
            · have := posK_lex (d := c) hy hj (by omega); omega)
          rw [c4]
          by_cases e : t = k
          · rw [if_pos (by rw [e])]
            subst e
            exact ⟨_, _, rfl, Or.inr rfl, Or.inl ⟨i, rfl, hfm, by omega⟩⟩
          · rw [if_neg (fun z => e ((nI_eq (by omega) hk).mp z)), nI_1]
            refine fin _ _ (Or.inr ⟨t + 1, y, hy, by omega, by omega, rfl, rfl, by omega, low, i, hfm, hw, fun j hj hp hwj => ?_⟩)
            rcases hle j hj hp with z | z
            · have := c7 j hj z; omega
            · rw [z]; unfold Lx; omega
      · rw [if_neg (fun z => hw ((nI_ltI (h10 y hy).2 (h10 i c1).2).mp z))]
        refine fin _ _ (Or.inr ⟨t, i, c1, by omega, c3, c4, rfl, by omega, fun j hj hp => ?_, FQ_keep c8 (by unfold Lx; omega) hle⟩)
        rcases hle j hj hp with z | z
        · exact c7 j hj z
        · rw [z]; omega
theorem M_front24_ok {τ : St} {K k : Nat} {c w : Nat → Nat} (hk : k < 2 ^ 31) (hK : K ≤ 1280) (h10 : τ.1 10 = nI K) (h12 : ∀ i, i < K → τ.2.1 12 i = nI (c i) ∧ c i < 2 ^ 31) (h13 : ∀ i, i < K → τ.2.1 13 i = nI (w i) ∧ w i < 2 ^ 31) {N : Nat} (hN : 20000 ≤ N) (x2 : Int32) (kk : Int32 → Int32 → St → Option (Int32 × St)) : ∀ (s i : Nat), s < K → s ≤ k → FM c w K s i → ∀ fuel, M_front_24 N kk (fuel + (s + 1)) (nI k) x2 (-1) 0 τ = M_front_24 N kk fuel (nI k) x2 (nI i) (nI (s + 1)) τ
  | 0, i, h1, h2, h3, fuel => by
    rw [M_front_24_s, if_neg (show ¬ nI k < 0 from fun z => absurd ((nI_ltI (a := k) (b := 0) hk (by decide)).mp z) (by omega))]
    obtain ⟨r, a, b⟩ := M_front36_ok hK h10 h12 h13 (N := N) (nI k) x2 (-1) 0 (fun _ => true) (Or.inl ⟨rfl, fun _ _ => rfl⟩) (M_front_136 N (M_front_24 N kk fuel)) K 0 (by omega) N (by omega) (-1) (Or.inl ⟨rfl, fun i hi => by omega⟩)
    rw [show (0 : Int32) = nI 0 from rfl] at *
    rw [a]
    rcases b with ⟨-, b2⟩ | ⟨j, b1, b2, b3, b4⟩
    · exact Bool.noConfusion (show true = false from b2 i (FM_lt h3))
    · have e : j = i := FM_one (c := c) (w := w) (K := K) (s := 0) ⟨b1, fun q hq => b4 q hq rfl⟩ h3
      unfold M_front_136
      rw [b2, e, if_neg (nI_m1 (by have := FM_lt h3; omega)), nI_1]
  | s + 1, i, h1, h2, ⟨b, h3, h4, h5, h6⟩, fuel => by
    have hb := FM_lt h3
    rw [show fuel + (s + 1 + 1) = fuel + 1 + (s + 1) from by omega, M_front24_ok hk hK h10 h12 h13 hN x2 kk s b (by omega) (by omega) h3 (fuel + 1)]
    rw [M_front_24_s, if_neg (fun z => absurd ((nI_ltI hk (by omega)).mp z) (by omega))]
    obtain ⟨r, a, b'⟩ := M_front36_ok hK h10 h12 h13 (N := N) (nI k) x2 (nI b) (nI (s + 1)) (fun q => decide (w q < w b)) (Or.inr ⟨b, hb, rfl, fun i hi => decide_eq_true_iff⟩) (M_front_136 N (M_front_24 N kk fuel)) K 0 (by omega) N (by omega) (-1) (Or.inl ⟨rfl, fun i hi => by omega⟩)
    rw [show (0 : Int32) = nI 0 from rfl, a]
    rcases b' with ⟨-, b2⟩ | ⟨j, b1, b2, b3, b4⟩
    · have : decide (w i < w b) = false := b2 i h4
      rw [decide_eq_true h5] at this; cases this
    · have e : j = i := FM_one (c := c) (w := w) (K := K) (s := s + 1) ⟨b, h3, b1, of_decide_eq_true b3, fun q hq hz => b4 q hq (decide_eq_true hz)⟩ ⟨b, h3, h4, h5, h6⟩
      unfold M_front_136
      rw [b2, e, if_neg (nI_m1 (by omega)), nI_1]
theorem M_front_none {τ : St} {K k : Nat} {c w : Nat → Nat} (hk : k < 2 ^ 31) (hK : K ≤ 1280) (h10 : τ.1 10 = nI K) (h12 : ∀ i, i < K → τ.2.1 12 i = nI (c i) ∧ c i < 2 ^ 31) (h13 : ∀ i, i < K → τ.2.1 13 i = nI (w i) ∧ w i < 2 ^ 31) {N : Nat} (hN : 20000 ≤ N) (x2 : Int32) (kk : Int32 → Int32 → St → Option (Int32 × St)) (h : K = 0 ∨ ∃ s i, s < k ∧ s < K ∧ FM c w K s i ∧ ∀ j, j < K → ¬ w j < w i) : M_front_24 N kk N (nI k) x2 (-1) 0 τ = some (-1, τ) := by
  rcases h with h | ⟨s, i, h1, h2, h3, h4⟩
  · obtain ⟨N', hN'⟩ : ∃ z, N = z + 1 := ⟨N - 1, by omega⟩
    have := M_front36_ok hK h10 h12 h13 (N := N) (nI k) x2 (-1) 0 (fun _ => true) (Or.inl ⟨rfl, fun _ _ => rfl⟩) (M_front_136 N (M_front_24 N kk N')) K 0 (by omega) N (by omega) (-1) (Or.inl ⟨rfl, fun i hi => by omega⟩)
    obtain ⟨r, a, b⟩ := this
    rw [show M_front_24 N kk N (nI k) x2 (-1) 0 τ = M_front_24 N kk (N' + 1) (nI k) x2 (-1) 0 τ by rw [← hN'], M_front_24_s, if_neg (show ¬ nI k < 0 from fun z => absurd ((nI_ltI (a := k) (b := 0) hk (by decide)).mp z) (by omega))]
    rw [show (0 : Int32) = nI 0 from rfl] at *
    rw [a]
    rcases b with ⟨b1, -⟩ | ⟨j, b1, -⟩
    · unfold M_front_136
      rw [b1, if_pos rfl]
    · omega
  · obtain ⟨N', hN'⟩ : ∃ z, N = z + 1 + (s + 1) := ⟨N - (s + 2), by omega⟩
    have hi := FM_lt h3
    have := M_front36_ok hK h10 h12 h13 (N := N) (nI k) x2 (nI i) (nI (s + 1)) (fun q => decide (w q < w i)) (Or.inr ⟨i, hi, rfl, fun i hi => decide_eq_true_iff⟩) (M_front_136 N (M_front_24 N kk N')) K 0 (by omega) N (by omega) (-1) (Or.inl ⟨rfl, fun i hi => by omega⟩)
    obtain ⟨r, a, b⟩ := this
    rw [show M_front_24 N kk N (nI k) x2 (-1) 0 τ = M_front_24 N kk (N' + 1 + (s + 1)) (nI k) x2 (-1) 0 τ by rw [← hN'], M_front24_ok hk hK h10 h12 h13 hN x2 kk s i h2 (by omega) h3, M_front_24_s, if_neg (fun z => absurd ((nI_ltI hk (by omega)).mp z) (by omega)), show (0 : Int32) = nI 0 from rfl, a]
    rcases b with ⟨b1, -⟩ | ⟨j, b1, -, b3, -⟩
    · unfold M_front_136
      rw [b1, if_pos rfl]
    · exact absurd (of_decide_eq_true b3) (h4 j b1)
section FRC
variable {fr to pr dm co dg cu : Nat → Nat} {n m root dep lod rf rt wy : Nat}
theorem three_lies (x : Int32) : (M_lies x 0 2 = 0 ∧ x ≠ 0 ∧ x ≠ 1 ∧ x ≠ 2) ∨ (M_lies x 0 2 = 1 ∧ (x = 0 ∨ x = 1 ∨ x = 2)) := by
  have e : nI 3 - 1 = 2 := by decide
  rcases lies_ix (K := 3) (by decide) x with ⟨z, h⟩ | ⟨i, hi, rfl, z⟩
  · rw [e] at z
    exact Or.inl ⟨z, h 0 (by decide), h 1 (by decide), h 2 (by decide)⟩
  · rw [e] at z
    refine Or.inr ⟨z, ?_⟩
    have : i = 0 ∨ i = 1 ∨ i = 2 := by omega
    rcases this with rfl | rfl | rfl
    · exact Or.inl rfl
    · exact Or.inr (Or.inl rfl)
    · exact Or.inr (Or.inr rfl)
theorem call_front {σ τ : St} (hI : Inv σ τ) {N : Nat} (hN : 20000 ≤ N) (x1 x2 : Int32) : Both (LT_front N x1 x2 σ) (M_front N x1 x2 τ) := by
  obtain ⟨fr, to, pr, dm, co, dg, cu, n, m, root, dep, lod, rf, rt, wy, ha, hx, hm⟩ := hI
  obtain ⟨σ1, a1, a2, a3, a4, a5, a6⟩ := judge_x ha hx hN
  obtain ⟨τ', b1, b2, b3, b4, b5⟩ := judge_m ha hm hN
  have hcu := ha.2.2.1
  have hlen := GD_len (fr := fr) (to := to) (pr := pr) (dm := dm) (co := co) (dg := dg) (n := n) (root := root) (dep := dep) (lod := lod) (rf := rf) (rt := rt) (wy := wy) hcu
  have hcap := GD_cap (co := co) (dg := dg) (dep := dep) (lod := lod) (rf := rf) (rt := rt) (wy := wy) ha.1 hcu
  have e10 : τ'.1 10 = nI (XGood fr to pr dm co dg cu n m root dep lod rf rt wy).length := by rw [← hlen]; exact b4.1.2.1
  have e18 : σ1.1 18 = nI (XGood fr to pr dm co dg cu n m root dep lod rf rt wy).length := a4.2.2.2.2.1
  have ht := a4.2.1.2.2.2.2.2.2
  obtain ⟨σ2, r1, r2, r3, r4, r5, r6⟩ := rank_x ha a4 a5 hN
  have hd2 := (rank_ag r4 r5 r6).done a4
  have hcap7 : ∀ i, i < (XGood fr to pr dm co dg cu n m root dep lod rf rt wy).length → mP fr to pr m root ((GD fr to pr dm co dg cu n m root dep lod rf rt wy).getD i 0) < 2 ^ 31 ∧ mW fr to pr m root ((GD fr to pr dm co dg cu n m root dep lod rf rt wy).getD i 0) < 2 ^ 31 := fun i hi => by
    have e := GD_at (co := co) (dg := dg) (dep := dep) (lod := lod) (rf := rf) (rt := rt) (wy := wy) hcu hi
    have hT : isT fr to n m ((GD fr to pr dm co dg cu n m root dep lod rf rt wy).getD i 0) := by rw [e]; exact tl_isT (getD_mem (XG_lt hi))
    have := meas_cap ha.1 hT
    omega
  have h7 : ∀ i, i < (XGood fr to pr dm co dg cu n m root dep lod rf rt wy).length → ∀ s', XDone s' fr to pr dm co dg cu n m root dep lod rf rt wy → s'.2.1 6 ((XGood fr to pr dm co dg cu n m root dep lod rf rt wy).getD i 0) = nI ((GD fr to pr dm co dg cu n m root dep lod rf rt wy).getD i 0) ∧ s'.2.1 7 ((XGood fr to pr dm co dg cu n m root dep lod rf rt wy).getD i 0) = nI (mP fr to pr m root ((GD fr to pr dm co dg cu n m root dep lod rf rt wy).getD i 0)) ∧ s'.2.1 10 ((XGood fr to pr dm co dg cu n m root dep lod rf rt wy).getD i 0) = nI (mW fr to pr m root ((GD fr to pr dm co dg cu n m root dep lod rf rt wy).getD i 0)) := fun i hi s' hs => by
    have e := GD_at (co := co) (dg := dg) (dep := dep) (lod := lod) (rf := rf) (rt := rt) (wy := wy) hcu hi
    have q := hs.2.2.2.1 _ (XG_lt hi)
    exact ⟨by rw [hs.2.1.2.1 _ (XG_lt hi), e], by rw [q.1, e], by rw [q.2.2.2, e]⟩
  have hmm : ∀ i, i < (XGood fr to pr dm co dg cu n m root dep lod rf rt wy).length → τ'.2.1 11 i = nI ((GD fr to pr dm co dg cu n m root dep lod rf rt wy).getD i 0) ∧ τ'.2.1 12 i = nI (mP fr to pr m root ((GD fr to pr dm co dg cu n m root dep lod rf rt wy).getD i 0)) ∧ τ'.2.1 13 i = nI (mW fr to pr m root ((GD fr to pr dm co dg cu n m root dep lod rf rt wy).getD i 0)) := fun i hi => b4.1.2.2.2.1 i (show i < (GD fr to pr dm co dg cu n m root dep lod rf rt wy).length by omega)
  unfold LT_front M_front
  rw [bnd_t a1, bnd_t b1]
  by_cases h0 : x1 < 0
  · have h0' : ¬ (0 : Int32) ≤ x1 := fun z => by
      rw [fa_lt] at h0
      rw [fa_le] at z
      omega
    rw [if_pos h0, if_neg h0']
    unfold LT_front_20
    rw [if_pos rfl]
    exact ⟨_, _, _, rfl, rfl, _, _, _, _, _, _, _, _, _, _, _, _, _, _, _, ha, a2, b2⟩
  · obtain ⟨k, hk, rfl⟩ : ∃ k, k < 2 ^ 31 ∧ x1 = nI k := by
      have h1 := fa_of_nlt h0
      have h2 : 0 ≤ x1.toInt := by rw [fa_le] at h1; exact h1
      have hb := Int32.toInt_lt x1
      exact ⟨x1.toInt.toNat, by omega, by rw [fa_eq, nI_toInt (by omega)]; omega⟩
    rw [if_neg h0, if_pos (fa_of_nlt h0)]
    obtain ⟨r, s', p1, p2, p3⟩ := placeOnFront_ok (N := N) (k := k) (K := (XGood fr to pr dm co dg cu n m root dep lod rf rt wy).length) (P := fun i => (XGood fr to pr dm co dg cu n m root dep lod rf rt wy).getD i 0) (c := cG fr to pr dm co dg cu n m root dep lod rf rt wy) (w := fun i => mW fr to pr m root ((GD fr to pr dm co dg cu n m root dep lod rf rt wy).getD i 0)) (σ2 := σ2) hk (by omega) (fun i hi => by have := XG_lt hi; omega) r2 r3 (by rw [r4 18 (by decide)]; exact e18) (fun i hi => ⟨(h7 i hi σ2 hd2).2.1, (hcap7 i hi).1⟩) (fun i hi => ⟨(h7 i hi σ2 hd2).2.2, (hcap7 i hi).2⟩) (XGood fr to pr dm co dg cu n m root dep lod rf rt wy).length 0 (by omega) N (by omega) σ1 (-1) (-1) r1 e18 (Or.inl ⟨rfl, rfl, rfl⟩)
    have hpf : GT_placeOnFront N (nI k) σ1 = some (r, s') := by
      unfold GT_placeOnFront
      exact p1
    have hs' : XDone s' fr to pr dm co dg cu n m root dep lod rf rt wy := by
      rcases p2 with rfl | rfl
      · exact a4
      · exact hd2
    have hv' : IvX fr to pr dm co dg cu n m root dep lod rf rt wy s' := by
      rcases p2 with rfl | rfl
      · exact a2
      · exact rank_inv a2 a6 r2 r3 r4 r5 r6
    rw [hpf]
    unfold bnd2 LT_front_20
    dsimp only
    rcases three_lies x2 with ⟨z, z0, z1, z2⟩ | ⟨z, z3⟩
    · rw [z, if_pos rfl]
      by_cases hr : r = -1
      · rw [if_pos hr]
        exact ⟨_, _, _, rfl, rfl, _, _, _, _, _, _, _, _, _, _, _, _, _, _, _, ha, hv', b2⟩
      · rw [if_neg hr, if_neg z0, if_neg z1, if_neg z2]
        exact ⟨_, _, _, rfl, rfl, _, _, _, _, _, _, _, _, _, _, _, _, _, _, _, ha, hv', b2⟩
    · rw [z, if_neg (show ¬ (1 : Int32) = 0 by decide)]
      rcases p3 with ⟨i, e, fm, hkK⟩ | ⟨e, hno⟩
      · have hi := FM_lt fm
        have hpi := XG_lt hi
        obtain ⟨N', hN'⟩ : ∃ z, N = z + 1 + (k + 1) := ⟨N - (k + 2), by omega⟩
        have hmo : M_front_24 N (M_front_153 N) N (nI k) x2 (-1) 0 τ' = M_front_153 N x2 (nI i) τ' := by
          rw [show M_front_24 N (M_front_153 N) N (nI k) x2 (-1) 0 τ' = M_front_24 N (M_front_153 N) (N' + 1 + (k + 1)) (nI k) x2 (-1) 0 τ' by rw [← hN'], M_front24_ok hk (by omega) e10 (fun i hi => ⟨(hmm i hi).2.1, (hcap7 i hi).1⟩) (fun i hi => ⟨(hmm i hi).2.2, (hcap7 i hi).2⟩) hN x2 (M_front_153 N) k i hkK (Nat.le_refl _) fm, M_front_24_s, if_pos (nI_lt (by omega) (by omega))]
        have x := h7 i hi s' hs'
        have y := hmm i hi
        rw [hmo, e, if_neg (nI_m1 (show (XGood fr to pr dm co dg cu n m root dep lod rf rt wy).getD i 0 < 2 ^ 31 by omega))]
        unfold M_front_153
        dsimp only
        rcases z3 with rfl | rfl | rfl
        · rw [if_pos rfl, if_pos rfl, grd_t (inb_nI (by omega) (by decide)), grd_t (inb_nI (by omega) (by decide)), nI_clamp (by omega), nI_clamp (by omega), x.1, y.1]
          exact ⟨_, _, _, rfl, rfl, _, _, _, _, _, _, _, _, _, _, _, _, _, _, _, ha, hv', b2⟩
        · rw [if_neg (show ¬ (1 : Int32) = 0 by decide), if_neg (show ¬ (1 : Int32) = 0 by decide), if_pos rfl, if_pos rfl, grd_t (inb_nI (by omega) (by decide)), grd_t (inb_nI (by omega) (by decide)), nI_clamp (by omega), nI_clamp (by omega), x.2.1, y.2.1]
          exact ⟨_, _, _, rfl, rfl, _, _, _, _, _, _, _, _, _, _, _, _, _, _, _, ha, hv', b2⟩
        · rw [if_neg (show ¬ (2 : Int32) = 0 by decide), if_neg (show ¬ (2 : Int32) = 1 by decide), if_pos rfl, if_neg (show ¬ (2 : Int32) = 0 by decide), if_neg (show ¬ (2 : Int32) = 1 by decide), grd_t (inb_nI (by omega) (by decide)), grd_t (inb_nI (by omega) (by decide)), nI_clamp (by omega), nI_clamp (by omega), x.2.2, y.2.2]
          exact ⟨_, _, _, rfl, rfl, _, _, _, _, _, _, _, _, _, _, _, _, _, _, _, ha, hv', b2⟩
      · rw [M_front_none hk (by omega) e10 (fun i hi => ⟨(hmm i hi).2.1, (hcap7 i hi).1⟩) (fun i hi => ⟨(hmm i hi).2.2, (hcap7 i hi).2⟩) hN x2 (M_front_153 N) hno, e, if_pos rfl]
        exact ⟨_, _, _, rfl, rfl, _, _, _, _, _, _, _, _, _, _, _, _, _, _, _, ha, hv', b2⟩
end FRC
