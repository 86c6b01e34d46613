/-! the call for the counts -/
theorem shift_ix {K c : Nat} (hK : K < 2 ^ 20) (hc : c < 2 ^ 20) (x : Int32) : (M_lies x (nI c) (nI c + nI K - 1) = 0 ∧ M_lies (x - nI c) 0 (nI K - 1) = 0) ∨ (∃ i, i < K ∧ x - nI c = nI i ∧ M_lies x (nI c) (nI c + nI K - 1) = 1 ∧ M_lies (x - nI c) 0 (nI K - 1) = 1) := by
  rw [nI_add]
  rcases lies_ix (show K < 2 ^ 30 by omega) (x - nI c) with ⟨h1, h2⟩ | ⟨i, hi, e, h⟩
  · left
    refine ⟨?_, h1⟩
    by_cases z : x < nI c
    · unfold M_lies; rw [if_pos z]
    · have z1 := fa_of_nlt z
      rw [fa_le, nI_toInt (by omega)] at z1
      have h0 : ¬ x < 0 := fun w => by
        rw [fa_lt] at w
        have : ((0 : Int32).toInt) = 0 := by decide
        omega
      have e : M_lies x (nI c) (nI (c + K) - 1) = M_lies x 0 (nI (c + K) - 1) := by unfold M_lies; rw [if_neg z, if_neg h0]
      rw [e]
      rcases lies_ix (show c + K < 2 ^ 30 by omega) x with ⟨w, -⟩ | ⟨j, hj, rfl, w⟩
      · exact w
      · rw [nI_toInt (by omega)] at z1
        exact absurd (nI_sub (show c ≤ j by omega)) (h2 (j - c) (by omega))
  · right
    refine ⟨i, hi, e, ?_, h⟩
    have ex : x = nI (c + i) := by
      rw [← nI_add, ← e]
      rw [Int32.add_comm, Int32.sub_add_cancel]
    unfold M_lies
    rw [ex, if_neg (fun w => by
      rw [fa_lt, nI_toInt (by omega), nI_toInt (by omega)] at w
      omega), show (1 : Int32) = nI 1 from rfl, nI_sub (by omega), if_neg (fun w => by
      rw [fa_lt, nI_toInt (by omega), nI_toInt (by omega)] at w
      omega)]
section CNT
variable {fr to pr dm co dg cu : Nat → Nat} {n m root dep lod rf rt wy : Nat}
theorem M_uncut {τ : St} (hm14 : m ≤ 14) (hx : NM τ n m root fr to pr co cu dm) (hcu : ∀ e, e < m → cu e ≤ 1) {N : Nat} : ∀ (d e : Nat), e + d = m → ∀ fuel, d < fuel → M_count_112 N fuel (nI (fb_ct (fun e => decide (cu e = 0)) e)) (nI e) τ = some (nI (fb_ct (fun e => decide (cu e = 0)) m), τ) := by
  intro d
  induction d with
  | zero =>
    intro e he fuel hf
    obtain ⟨fuel, rfl⟩ : ∃ z, fuel = z + 1 := ⟨fuel - 1, by omega⟩
    rw [M_count_112_s, hx.2.1, if_pos (nI_le (by omega) (by omega)), show e = m by omega]
  | succ d ih =>
    intro e he fuel hf
    obtain ⟨fuel, rfl⟩ : ∃ z, fuel = z + 1 := ⟨fuel - 1, by omega⟩
    have h1 := hcu e (by omega)
    have hi := ih (e + 1) (by omega) fuel (by omega)
    rw [fb_ct_succ] at hi
    rw [M_count_112_s, hx.2.1, if_neg (nI_ge (by omega) (by omega)), grd_t (inb_nI (by omega) (by decide)), nI_clamp (by omega), hx.2.2.2.2.1 e (by omega), nI_1, nI_1]
    by_cases z : cu e = 0
    · rw [if_pos ((nI_z (by omega)).mpr z)]
      rw [if_pos (decide_eq_true z)] at hi
      exact hi
    · rw [if_neg (fun w => z ((nI_z (by omega)).mp w)), Int32.add_zero]
      rw [if_neg (show ¬ decide (cu e = 0) = true by simpa using z), Nat.add_zero] at hi
      exact hi
theorem uncut_eq (hm14 : m ≤ 14) (hcu : ∀ e, e < m → cu e ≤ 1) : nI m - J_bc (nI (cmk m cu)) = nI (fb_ct (fun e => decide (cu e = 0)) m) := by
  have hcl := cmk_lt hm14 cu
  have h1 : pck 32 (cmk m cu) = fb_ct (fun e => !decide (cu e = 0)) m := by
    rw [pck_ext (k := m) (a := cmk m cu) (mk_lt _ m) (by omega)]
    unfold pck
    refine fb_ct_cong (fun e he => ?_)
    rw [cmk_bit he]
    have := hcu e he
    by_cases z : cu e = 0
    · simp [z]
    · simp [show cu e = 1 by omega]
  have h2 := fb_ct_not (fun e => decide (cu e = 0)) m
  rw [J_bc_nI (by omega), h1, nI_sub (by omega)]
  congr 1
  omega
theorem call_count {σ τ : St} (hI : Inv σ τ) {N : Nat} (hN : 20000 ≤ N) (x : Int32) : Both (LT_count N x σ) (M_count N x τ) := by
  have hI0 := hI
  have hwh := call_whole hI hN
  obtain ⟨fr, to, pr, dm, co, dg, cu, n, m, root, dep, lod, rf, rt, wy, ha, hx, hm⟩ := hI
  have hn8 := ha.1.2.1
  have hm14 := ha.1.2.2.1
  obtain ⟨x0, x1, x2, xe, xv⟩ := hx.1
  obtain ⟨l1, l2, l3, l4, l5, l6, l7, l8⟩ := hx.2.1
  obtain ⟨y0, y1, y2, ye, yc, yv⟩ := hm.1
  obtain ⟨k1, k2, k3, k4, k5, k6⟩ := hm.2.1
  have neg : ∀ c : Int32, c < 0 → M_isPost c τ = 0 := fun c hc => by unfold M_isPost M_lies; rw [if_pos hc]
  unfold LT_count M_count
  by_cases h0 : x = 0
  · subst h0
    rw [neg _ (by decide), neg _ (by decide), if_pos rfl, if_pos rfl, if_pos rfl, if_pos rfl, x0, y0]
    exact ⟨_, _, _, rfl, rfl, hI0⟩
  by_cases h1 : x = 1
  · subst h1
    rw [neg _ (by decide), neg _ (by decide), x2, y1]
    exact ⟨_, _, _, rfl, rfl, hI0⟩
  by_cases h2 : x = 2
  · subst h2
    rw [neg _ (by decide), neg _ (by decide), x2, hx.2.2.1, uncut_eq hm14 ha.2.2.1]
    exact ⟨_, _, _, rfl, M_uncut hm14 hm.1 ha.2.2.1 m 0 (by omega) N (by omega), hI0⟩
  by_cases h3 : x = 3
  · subst h3
    rw [neg _ (by decide), neg _ (by decide), x1, y2]
    exact ⟨_, _, _, rfl, rfl, hI0⟩
  by_cases h4 : x = 4
  · subst h4
    rw [neg _ (by decide), neg _ (by decide), l2, k1]
    exact ⟨_, _, _, rfl, rfl, hI0⟩
  by_cases h5 : x = 5
  · subst h5
    rw [neg _ (by decide), neg _ (by decide), l3, k2]
    exact ⟨_, _, _, rfl, rfl, hI0⟩
  by_cases h6 : x = 6
  · subst h6
    rw [neg _ (by decide), neg _ (by decide), l4, k3]
    exact ⟨_, _, _, rfl, rfl, hI0⟩
  by_cases h7 : x = 7
  · subst h7
    rw [neg _ (by decide), neg _ (by decide), l5, k4]
    exact ⟨_, _, _, rfl, rfl, hI0⟩
  by_cases h8 : x = 8
  · subst h8
    rw [neg _ (by decide), neg _ (by decide), l6, k5]
    exact ⟨_, _, _, rfl, rfl, hI0⟩
  by_cases h9 : x = 9
  · subst h9
    rw [neg _ (by decide), neg _ (by decide)]
    obtain ⟨r, σ', τ', a1, a2, a3⟩ := hwh
    refine ⟨r, σ', τ', ?_, a2, a3⟩
    rw [if_neg h0, if_neg h1, if_neg h2, if_neg h3, if_neg h4, if_neg h5, if_neg h6, if_neg h7, if_neg h8, if_pos rfl, a1]
    rfl
  rw [if_neg h0, if_neg h1, if_neg h2, if_neg h3, if_neg h4, if_neg h5, if_neg h6, if_neg h7, if_neg h8, if_neg h9, if_neg h0, if_neg h1, if_neg h2, if_neg h3, if_neg h4, if_neg h5, if_neg h6, if_neg h7, if_neg h8, if_neg h9]
  unfold LT_countAtPost M_isPost
  rw [within_lies, within_lies, x0, y0, show (20 : Int32) = nI 20 from rfl, show (30 : Int32) = nI 30 from rfl]
  rcases shift_ix (K := n) (c := 20) (by omega) (by decide) x with ⟨z1, z2⟩ | ⟨i, hi, e, z1, z2⟩
  · rw [z1, z2, if_pos rfl, if_pos rfl]
    rcases shift_ix (K := n) (c := 30) (by omega) (by decide) x with ⟨w1, w2⟩ | ⟨i, hi, e, w1, w2⟩
    · rw [w1, w2, if_pos rfl, if_pos rfl]
      exact ⟨_, _, _, rfl, rfl, hI0⟩
    · rw [w1, w2, if_neg (show ¬ (1 : Int32) = 0 by decide), if_neg (show ¬ (1 : Int32) = 0 by decide), e, grd_t (inb_nI (by omega) (by decide)), grd_t (inb_nI (by omega) (by decide)), nI_clamp (by omega), (xv i (by omega)).1, yv i (by omega)]
      exact ⟨_, _, _, rfl, rfl, hI0⟩
  · rw [z1, z2, if_neg (show ¬ (1 : Int32) = 0 by decide), if_neg (show ¬ (1 : Int32) = 0 by decide), e, grd_t (inb_nI (by omega) (by decide)), grd_t (inb_nI (by omega) (by decide)), nI_clamp (by omega), l8 i (by omega), k6 i (by omega)]
    exact ⟨_, _, _, rfl, rfl, hI0⟩
end CNT
