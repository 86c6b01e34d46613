/-! the call for what bars every tree -/
theorem b_1 : ∀ i, i < 32 → bt 1 i = decide (i = 0) := by decide +kernel
theorem bt_nI {a i : Nat} (hi : i < 32) : bt (nI a) i = a.testBit i := by
  show (BitVec.ofNat 32 a).getLsbD i = _
  rw [BitVec.getLsbD_ofNat]
  simp [hi]
theorem bitz_nI {a e : Nat} (he : e < 32) : (nI a >>> (nI e &&& 31)) &&& 1 = 0 ↔ a.testBit e = false := by
  constructor
  · intro h
    have h1 : bt ((nI a >>> (nI e &&& 31)) &&& 1) 0 = false := by rw [h]; exact b_0 0
    rw [b_and, b_1 0 (by decide), b_sshr e he _ (show 0 < 32 by decide), if_pos (by omega), bt_nI (by omega)] at h1
    simpa using h1
  · intro h
    refine b_ext (fun i hi => ?_)
    rw [b_and, b_1 i hi, b_0]
    by_cases z : i = 0
    · subst z
      rw [b_sshr e he _ (show 0 < 32 by decide), if_pos (by omega), bt_nI (by omega), Nat.add_zero, h]; rfl
    · simp [z]
/-- y meets every kind of break -/
def brs (kd : Nat → Bool) (y k : Nat) : Bool := (List.range k).all (fun j => !kd j || decide (j &&& y ≠ 0))
theorem brs_succ (kd : Nat → Bool) (y k : Nat) : brs kd y (k + 1) = (brs kd y k && (!kd k || decide (k &&& y ≠ 0))) := by
  unfold brs
  rw [List.range_succ, List.all_append]
  simp
theorem barsAll_ok {σ : St} {kd : Nat → Bool} (h22 : σ.1 22 = nI (mk 32 kd)) {N y : Nat} (hN : 100 ≤ N) (hy : y < 32) : GT_barsAll N (nI y) σ = some (if brs kd y 32 = true then 1 else 0) := by
  have loop : ∀ (d k : Nat), k + d = 32 → brs kd y k = true → ∀ fuel, d < fuel → GT_barsAll_2 N fuel (nI y) (nI k) σ = some (if brs kd y 32 = true then 1 else 0) := by
    intro d
    induction d with
    | zero =>
      intro k hk hb fuel hf
      obtain ⟨fuel, rfl⟩ : ∃ z, fuel = z + 1 := ⟨fuel - 1, by omega⟩
      have e : k = 32 := by omega
      subst e
      rw [GT_barsAll_2_s, if_pos (show (31 : Int32) < nI 32 by decide), if_pos hb]
    | succ d ih =>
      intro k hk hb fuel hf
      obtain ⟨fuel, rfl⟩ : ∃ z, fuel = z + 1 := ⟨fuel - 1, by omega⟩
      have hs := brs_succ kd y k
      rw [hb, Bool.true_and] at hs
      rw [GT_barsAll_2_s, if_neg (show ¬ (31 : Int32) < nI k from fun w => by
        rw [show (31 : Int32) = nI 31 from rfl, fa_lt, nI_toInt (by omega), nI_toInt (by omega)] at w
        omega), h22]
      have hbit : (mk 32 kd).testBit k = kd k := by rw [mk_bit]; simp [show k < 32 by omega]
      by_cases hk1 : kd k = true
      · rw [if_neg (fun w => by have := (bitz_nI (by omega)).mp w; rw [hbit, hk1] at this; cases this), nI_1]
        by_cases hz : k &&& y = 0
        · rw [if_pos ((and_nI_zero (by omega) (by omega)).mpr hz)]
          have : brs kd y 32 = false := by
            unfold brs
            rw [List.all_eq_false]
            exact ⟨k, List.mem_range.mpr (by omega), by simp [hk1, hz]⟩
          rw [this]
          rfl
        · rw [if_neg (fun w => hz ((and_nI_zero (by omega) (by omega)).mp w))]
          exact ih (k + 1) (by omega) (by rw [hs, hk1]; simpa using hz) fuel (by omega)
      · have hk0 : kd k = false := Bool.eq_false_iff.mpr hk1
        rw [if_pos ((bitz_nI (by omega)).mpr (by rw [hbit]; exact hk0)), nI_1]
        exact ih (k + 1) (by omega) (by rw [hs, hk0]; rfl) fuel (by omega)
  unfold GT_barsAll
  exact loop 32 0 (by omega) rfl N (by omega)
/-- the reference's look at every tree -/
theorem M_bar_28_ok {τ : St} {U : List Nat} {bv : Nat → Nat} (h9 : τ.1 9 = nI U.length) (hU : U.length ≤ 1280) (h10 : ∀ i, i < U.length → τ.2.1 10 i = nI (bv (U.getD i 0))) (hbv : ∀ x, bv x < 32) {N y : Nat} (hy : y < 32) (k : Int32 → Int32 → Int32 → St → Option (Int32 × St)) (x : Int32) : ∀ (d i : Nat), i + d = U.length → ∀ fuel, d < fuel → M_bar_28 N k fuel x (nI y) (if (U.take i).all (fun t => decide (bv t &&& y ≠ 0)) = true then 0 else 1) (nI i) τ = k x (nI y) (if U.all (fun t => decide (bv t &&& y ≠ 0)) = true then 0 else 1) τ := by
  intro d
  induction d with
  | zero =>
    intro i hi fuel hf
    obtain ⟨fuel, rfl⟩ : ∃ z, fuel = z + 1 := ⟨fuel - 1, by omega⟩
    have e : i = U.length := by omega
    rw [M_bar_28_s, h9, if_pos (nI_le (by omega) (by omega)), e, List.take_length]
  | succ d ih =>
    intro i hi fuel hf
    obtain ⟨fuel, rfl⟩ : ∃ z, fuel = z + 1 := ⟨fuel - 1, by omega⟩
    have hn := ih (i + 1) (by omega) fuel (by omega)
    rw [take_next (show i < U.length by omega), List.all_append] at hn
    rw [M_bar_28_s, h9, if_neg (nI_ge (by omega) (by omega)), nI_1]
    have hb := hbv (U.getD i 0)
    by_cases ha : (U.take i).all (fun t => decide (bv t &&& y ≠ 0)) = true
    · rw [ha, Bool.true_and] at hn
      rw [if_pos ha, if_pos rfl, grd_t (inb_nI (by omega) (by decide)), nI_clamp (by omega), h10 i (by omega)]
      by_cases hz : bv (U.getD i 0) &&& y = 0
      · rw [if_pos ((and_nI_zero (by omega) (by omega)).mpr hz)]
        rw [if_neg (by simpa using hz)] at hn
        exact hn
      · rw [if_neg (fun w => hz ((and_nI_zero (by omega) (by omega)).mp w))]
        rw [if_pos (by simpa using hz)] at hn
        exact hn
    · rw [if_neg ha, if_neg (show ¬ (1 : Int32) = 0 by decide)]
      have : (U.take i).all (fun t => decide (bv t &&& y ≠ 0)) = false := Bool.eq_false_iff.mpr ha
      rw [this, Bool.false_and, if_neg (show ¬ false = true by decide)] at hn
      exact hn
theorem brs_all {U : List Nat} {bv : Nat → Nat} (hbv : ∀ x, bv x < 32) (y : Nat) : brs (fun k => U.any (fun x => decide (bv x = k))) y 32 = U.all (fun t => decide (bv t &&& y ≠ 0)) := by
  rw [Bool.eq_iff_iff]
  unfold brs
  rw [List.all_eq_true, List.all_eq_true]
  constructor
  · intro h t ht
    have := h (bv t) (List.mem_range.mpr (hbv t))
    rw [Bool.or_eq_true] at this
    rcases this with w | w
    · have h2 : U.any (fun x => decide (bv x = bv t)) = true := List.any_eq_true.mpr ⟨t, ht, decide_eq_true rfl⟩
      have w2 : (!(U.any (fun x => decide (bv x = bv t)))) = true := w
      rw [h2] at w2; cases w2
    · exact w
  · intro h k _
    rw [Bool.or_eq_true]
    cases hk : U.any (fun x => decide (bv x = k)) with
    | false => exact Or.inl (by show (!(U.any (fun x => decide (bv x = k)))) = true; rw [hk]; rfl)
    | true =>
      obtain ⟨t, ht, e⟩ := List.any_eq_true.mp hk
      right
      have := h t ht
      rw [of_decide_eq_true e] at this
      exact this
theorem pck5 : ∀ y, y < 32 → pck 5 y ≤ 5 ∧ (y < 31 → pck 5 y < 5) := by decide +kernel
theorem bc5 {y : Nat} (hy : y < 32) : J_bc (nI y) = nI (pck 5 y) := by rw [J_bc_nI (by omega), pck_ext (k := 5) (by omega) (by decide)]
theorem size5 {N y : Nat} (hN : 20 ≤ N) (hy : y < 32) : M_sizeOf N (nI y) = some (nI (pck 5 y)) := by rw [M_size hN (by omega), bl_pck (m := 5) (by omega) (by decide)]
theorem call_bar {σ τ : St} (hI : Inv σ τ) {N : Nat} (hN : 20000 ≤ N) : Both (LT_bar N σ) (M_bar N τ) := by
  obtain ⟨fr, to, pr, dm, co, dg, cu, n, m, root, dep, lod, rf, rt, wy, ha, hx, hm⟩ := hI
  obtain ⟨σ', a1, a2, a3, a4, a5, a6⟩ := judge_x ha hx hN
  obtain ⟨τ', b1, b2, b3, b4, b5⟩ := judge_m ha hm hN
  have hcu := ha.2.2.1
  have hlen := GD_len (fr := fr) (to := to) (pr := pr) (dm := dm) (co := co) (dg := dg) (n := n) (root := root) (dep := dep) (lod := lod) (rf := rf) (rt := rt) (wy := wy) hcu
  have hcap := GD_cap (co := co) (dg := dg) (dep := dep) (lod := lod) (rf := rf) (rt := rt) (wy := wy) ha.1 hcu
  have e10 : τ'.1 10 = nI (GD fr to pr dm co dg cu n m root dep lod rf rt wy).length := b4.1.2.1
  have e18 : σ'.1 18 = nI (GD fr to pr dm co dg cu n m root dep lod rf rt wy).length := by rw [hlen]; exact a4.2.2.2.2.1
  have fin : Inv σ' τ' := ⟨_, _, _, _, _, _, _, _, _, _, _, _, _, _, _, ha, a2, b2⟩
  unfold LT_bar M_bar
  rw [bnd_t a1, bnd_t b1, e10, e18]
  by_cases hG : (GD fr to pr dm co dg cu n m root dep lod rf rt wy).length = 0
  · rw [hG, if_pos (show nI 0 ≤ 0 by decide), if_pos (show nI 0 ≤ 0 by decide)]
    obtain ⟨bv, hbv⟩ : ∃ bv, bv = bvl fr to pr dm co dg n m root dep lod rf rt wy := ⟨_, rfl⟩
    obtain ⟨U, hU⟩ : ∃ U, U = uT (tb fr to cu n m) (2 ^ m) := ⟨_, rfl⟩
    have bvlt : ∀ x, bv x < 32 := fun x => by rw [hbv]; exact brk_lt _ _ _ _ _ _ _ _ _ _ _ _
    have e22 : σ'.1 22 = nI (mk 32 (fun k => U.any (fun x => decide (bv x = k)))) := by
      have := a4.2.2.2.2.2.2.1
      rw [List.take_length, ← uT_eq hcu, ← hU, ← hbv] at this
      exact this
    have e9 : τ'.1 9 = nI U.length := by rw [hU]; exact b4.1.1
    have eb : ∀ i, i < U.length → τ'.2.1 10 i = nI (bv (U.getD i 0)) := by rw [hU, hbv]; exact b4.1.2.2.1
    have lU : U.length ≤ 1280 := by rw [hU]; exact uT_cap ha.1 hcu
    obtain ⟨B, hB⟩ : ∃ B : Nat → Bool, B = fun y => U.all (fun t => decide (bv t &&& y ≠ 0)) := ⟨_, rfl⟩
    have cls : ∀ y, y < 32 → GT_barsAll N (nI y) σ' = some (if B y = true then 1 else 0) := fun y hy => by
      rw [barsAll_ok e22 (show 100 ≤ N by omega) hy, brs_all bvlt, hB]
    have mdl : ∀ y, y < 32 → ∀ (k : Int32 → Int32 → Int32 → St → Option (Int32 × St)) (x : Int32), M_bar_28 N k N x (nI y) 0 0 τ' = k x (nI y) (if B y = true then 0 else 1) τ' := fun y hy k x => by
      have := M_bar_28_ok e9 lU eb bvlt (N := N) hy k x U.length 0 (by omega) N (by omega)
      rw [List.take_zero, if_pos (show ([] : List Nat).all _ = true from rfl)] at this
      rw [hB]
      exact this
    -- with no good tree, all the limits bar
    have b31 : B 31 = true := by
      rw [hB]
      refine List.all_eq_true.mpr (fun t ht => decide_eq_true (fun z => ?_))
      have h0 : bv t = 0 := by
        have := Nat.and_two_pow_sub_one_eq_mod (bv t) 5
        have e2 : bv t &&& 31 = bv t % 32 := this
        have := bvlt t
        omega
      have hmem : t ∈ GD fr to pr dm co dg cu n m root dep lod rf rt wy := List.mem_filter.mpr ⟨hU ▸ ht, by rw [← hbv, h0]; rfl⟩
      rw [List.length_eq_zero_iff.mp hG] at hmem
      exact absurd hmem List.not_mem_nil
    have loop : ∀ (d y : Nat), y + d = 31 → ∀ f1, d < f1 → ∀ f2, d + 1 < f2 → ∀ c : Nat, c < 32 → ∀ r : Int32, ((r = -1 ∧ c = 31) ∨ (r = nI c ∧ c < 31)) → ∃ q : Int32, GT_fewestBarring_5 N f1 (nI c) (nI y) σ' = some q ∧ M_bar_17 N f2 r (nI y) τ' = some (q, τ') := by
      intro d
      induction d with
      | zero =>
        intro y hy f1 h1 f2 h2 c hc r hr
        obtain ⟨f1, rfl⟩ : ∃ z, f1 = z + 1 := ⟨f1 - 1, by omega⟩
        obtain ⟨f2, rfl⟩ : ∃ z, f2 = z + 2 := ⟨f2 - 2, by omega⟩
        have e : y = 31 := by omega
        subst e
        rw [GT_fewestBarring_5_s, if_pos (show (31 : Int32) ≤ nI 31 by decide), M_bar_17_s, if_neg (show ¬ (32 : Int32) ≤ nI 31 by decide)]
        refine ⟨nI c, rfl, ?_⟩
        have hmd := mdl 31 (by decide) (M_bar_65 N (M_bar_17 N (f2 + 1))) r
        rw [hmd, b31, if_pos rfl]
        unfold M_bar_65
        rw [if_pos rfl]
        rcases hr with ⟨hr, hc31⟩ | ⟨hr, hc31⟩
        · rw [hr, if_pos rfl, M_bar_17_s, if_pos (show (32 : Int32) ≤ nI 31 + 1 by decide), hc31]
        · have h5 := (pck5 c hc).1
          have e31 : pck 5 31 = 5 := by decide
          rw [hr, if_neg (nI_m1 (by omega)), bnd_t (size5 (by omega) (by decide)), bnd_t (size5 (by omega) hc), if_pos (nI_le (by omega) (by omega)), M_bar_17_s, if_pos (show (32 : Int32) ≤ nI 31 + 1 by decide)]
      | succ d ih =>
        intro y hy f1 h1 f2 h2 c hc r hr
        obtain ⟨f1, rfl⟩ : ∃ z, f1 = z + 1 := ⟨f1 - 1, by omega⟩
        obtain ⟨f2, rfl⟩ : ∃ z, f2 = z + 1 := ⟨f2 - 1, by omega⟩
        have hmd := mdl y (by omega) (M_bar_65 N (M_bar_17 N f2)) r
        have y5 := pck5 y (by omega)
        have c5 := pck5 c hc
        have e31 : pck 5 31 = 5 := by decide
        rw [GT_fewestBarring_5_s, if_neg (show ¬ (31 : Int32) ≤ nI y from nI_ge (b := 31) (by omega) (by decide)), M_bar_17_s, if_neg (show ¬ (32 : Int32) ≤ nI y from nI_ge (b := 32) (by omega) (by decide))]
        rw [hmd, bc5 hc, bc5 (show y < 32 by omega), nI_1, cls y (by omega)]
        unfold M_bar_65
        by_cases hb : B y = true
        · rw [if_pos hb, if_pos hb, if_pos rfl, nI_1]
          rcases hr with ⟨hr, hc31⟩ | ⟨hr, hc31⟩
          · subst hc31
            rw [hr, if_pos rfl, if_neg (nI_ge (by omega) (by omega)), bnd_t rfl, if_neg (by decide)]
            exact ih (y + 1) (by omega) f1 (by omega) f2 (by omega) y (by omega) (nI y) (Or.inr ⟨rfl, by omega⟩)
          · rw [hr, if_neg (nI_m1 (by omega)), bnd_t (size5 (by omega) (by omega)), bnd_t (size5 (by omega) hc)]
            by_cases hle : pck 5 c ≤ pck 5 y
            · rw [if_pos (nI_le hle (by omega)), if_pos (nI_le hle (by omega))]
              exact ih (y + 1) (by omega) f1 (by omega) f2 (by omega) c hc (nI c) (Or.inr ⟨rfl, hc31⟩)
            · rw [if_neg (nI_ge (by omega) (by omega)), if_neg (nI_ge (by omega) (by omega)), bnd_t rfl, if_neg (by decide)]
              exact ih (y + 1) (by omega) f1 (by omega) f2 (by omega) y (by omega) (nI y) (Or.inr ⟨rfl, by omega⟩)
        · rw [if_neg hb, if_neg hb, if_neg (show ¬ (1 : Int32) = 0 by decide), bnd_t rfl, nI_1, if_pos rfl, ite_self]
          exact ih (y + 1) (by omega) f1 (by omega) f2 (by omega) c hc r hr
    obtain ⟨q, h1, h2⟩ := loop 31 0 (by omega) N (by omega) N (by omega) 31 (by decide) (-1) (Or.inl ⟨rfl, rfl⟩)
    unfold GT_fewestBarring
    refine ⟨q, σ', τ', ?_, h2, fin⟩
    have h1' : GT_fewestBarring_5 N N 31 0 σ' = some q := h1
    rw [bnd_t h1']
  · rw [if_neg (show ¬ nI (GD fr to pr dm co dg cu n m root dep lod rf rt wy).length ≤ 0 from nI_ge (a := 0) (by omega) (by omega)), if_neg (show ¬ nI (GD fr to pr dm co dg cu n m root dep lod rf rt wy).length ≤ 0 from nI_ge (a := 0) (by omega) (by omega))]
    exact ⟨-1, σ', τ', rfl, rfl, fin⟩
