/-! the reference: measures and limits -/
theorem fmx_succ (g : Nat → Nat) (n : Nat) : fmx g (n + 1) = max (fmx g n) (g n) := by
  unfold fmx
  rw [List.range_succ, List.map_append, List.foldl_append]
  rfl
theorem fmx_le {g : Nat → Nat} {n b : Nat} (h : ∀ v, v < n → g v ≤ b) : fmx g n ≤ b := foldl_max_le (Nat.zero_le _) (fun a ha => by
  obtain ⟨v, hv, rfl⟩ := List.mem_map.mp ha
  exact h v (List.mem_range.mp hv))
/-- how many lines of x are at v -/
def la (fr to : Nat → Nat) (m x v : Nat) : Nat := fb_ct (fun e => x.testBit e && (decide (fr e = v) || decide (to e = v))) m
section MM
variable {τ : St} {n m root : Nat} {fr to pr co cu dm : Nat → Nat} {N x : Nat}
theorem M_sum0 (hx : NM τ n m root fr to pr co cu dm) (hm : m ≤ 14) (hx14 : x < 2 ^ 14) (F S B : Nat → Int32) : ∀ (d e : Nat), e + d = m → ∀ fuel, d < fuel → M_measured_43 N fuel (nI x) (nI (fb_sm (fun e => if x.testBit e = true then pr e else 0) e)) (nI e) (sq3 τ F S B) = some (nI (fb_sm (fun e => if x.testBit e = true then pr e else 0) m)) := by
  intro d
  induction d with
  | zero =>
    intro e he fuel hf
    obtain ⟨fuel, rfl⟩ : ∃ z, fuel = z + 1 := ⟨fuel - 1, by omega⟩
    have g : (sq3 τ F S B).1 1 = nI m := hx.2.1
    have e1 : e = m := by omega
    rw [M_measured_43_s, g, if_pos (nI_le (by omega) (by omega)), e1]
  | succ d ih =>
    intro e he fuel hf
    obtain ⟨fuel, rfl⟩ : ∃ z, fuel = z + 1 := ⟨fuel - 1, by omega⟩
    have g : (sq3 τ F S B).1 1 = nI m := hx.2.1
    have hnext := ih (e + 1) (by omega) fuel (by omega)
    rw [fb_sm_succ] at hnext
    rw [M_measured_43_s, g, if_neg (nI_ge (by omega) (by omega)), M_has_nI (by omega) (by omega), nI_1]
    by_cases hb : x.testBit e = true
    · rw [if_pos hb, if_neg (by decide), grd_t (inb_nI (by omega) (by decide)), nI_clamp (by omega)]
      have g2 : (sq3 τ F S B).2.1 2 e = nI (pr e) := (hx.2.2.2.1 e (by omega)).2.2.1
      rw [g2, nI_add]
      rw [if_pos hb] at hnext
      exact hnext
    · rw [if_neg hb, if_pos rfl, show (0 : Int32) = nI 0 from rfl, nI_add]
      rw [if_neg hb] at hnext
      exact hnext
theorem M_sum4 (hx : NM τ n m root fr to pr co cu dm) (hm : m ≤ 14) (hx14 : x < 2 ^ 14) (F S B : Nat → Int32) : ∀ (d e : Nat), e + d = m → ∀ fuel, d < fuel → M_measured_257 N fuel (nI x) (nI (fb_sm (fun e => if x.testBit e = true then co e else 0) e)) (nI e) (sq3 τ F S B) = some (nI (fb_sm (fun e => if x.testBit e = true then co e else 0) m)) := by
  intro d
  induction d with
  | zero =>
    intro e he fuel hf
    obtain ⟨fuel, rfl⟩ : ∃ z, fuel = z + 1 := ⟨fuel - 1, by omega⟩
    have g : (sq3 τ F S B).1 1 = nI m := hx.2.1
    have e1 : e = m := by omega
    rw [M_measured_257_s, g, if_pos (nI_le (by omega) (by omega)), e1]
  | succ d ih =>
    intro e he fuel hf
    obtain ⟨fuel, rfl⟩ : ∃ z, fuel = z + 1 := ⟨fuel - 1, by omega⟩
    have g : (sq3 τ F S B).1 1 = nI m := hx.2.1
    have hnext := ih (e + 1) (by omega) fuel (by omega)
    rw [fb_sm_succ] at hnext
    rw [M_measured_257_s, g, if_neg (nI_ge (by omega) (by omega)), M_has_nI (by omega) (by omega), nI_1]
    by_cases hb : x.testBit e = true
    · rw [if_pos hb, if_neg (by decide), grd_t (inb_nI (by omega) (by decide)), nI_clamp (by omega)]
      have g2 : (sq3 τ F S B).2.1 3 e = nI (co e) := (hx.2.2.2.1 e (by omega)).2.2.2
      rw [g2, nI_add]
      rw [if_pos hb] at hnext
      exact hnext
    · rw [if_neg hb, if_pos rfl, show (0 : Int32) = nI 0 from rfl, nI_add]
      rw [if_neg hb] at hnext
      exact hnext
theorem M_max2 (hx : NM τ n m root fr to pr co cu dm) (hn : n ≤ 8) {g : Nat → Nat} {F S B : Nat → Int32} (hF : ∀ v, v < n → F v = nI (g v)) (hg : ∀ v, v < n → g v ≤ 100000) : ∀ (d v : Nat), v + d = n → ∀ fuel, d < fuel → M_measured_132 N fuel (nI (fmx g v)) (nI v) (sq3 τ F S B) = some (nI (fmx g n)) := by
  intro d
  induction d with
  | zero =>
    intro v hv fuel hf
    obtain ⟨fuel, rfl⟩ : ∃ z, fuel = z + 1 := ⟨fuel - 1, by omega⟩
    have g0 : (sq3 τ F S B).1 0 = nI n := hx.1
    have e1 : v = n := by omega
    rw [M_measured_132_s, g0, if_pos (nI_le (by omega) (by omega)), e1]
  | succ d ih =>
    intro v hv fuel hf
    obtain ⟨fuel, rfl⟩ : ∃ z, fuel = z + 1 := ⟨fuel - 1, by omega⟩
    have g0 : (sq3 τ F S B).1 0 = nI n := hx.1
    have g7 : (sq3 τ F S B).2.1 7 v = nI (g v) := hF v (by omega)
    have gi : inb (nI v) 8 = true := inb_nI (by omega) (by decide)
    have hnext := ih (v + 1) (by omega) fuel (by omega)
    rw [fmx_succ] at hnext
    have b1 := hg v (by omega)
    have b2 : fmx g v ≤ 100000 := fmx_le (fun u hu => hg u (by omega))
    rw [M_measured_132_s, g0, if_neg (nI_ge (by omega) (by omega)), grd_t gi, nI_clamp (by omega), g7, nI_1]
    by_cases h : g v ≤ fmx g v
    · rw [if_pos (nI_le h (by omega))]
      rw [Nat.max_eq_left h] at hnext
      exact hnext
    · rw [if_neg (nI_ge (by omega) (by omega)), grd_t gi]
      rw [Nat.max_eq_right (by omega)] at hnext
      exact hnext
theorem M_max5 (hx : NM τ n m root fr to pr co cu dm) (hn : n ≤ 8) {g : Nat → Nat} {F S B : Nat → Int32} (hF : ∀ v, v < n → S v = nI (g v)) (hg : ∀ v, v < n → g v ≤ 100000) : ∀ (d v : Nat), v + d = n → ∀ fuel, d < fuel → M_measured_303 N fuel (nI (fmx g v)) (nI v) (sq3 τ F S B) = some (nI (fmx g n)) := by
  intro d
  induction d with
  | zero =>
    intro v hv fuel hf
    obtain ⟨fuel, rfl⟩ : ∃ z, fuel = z + 1 := ⟨fuel - 1, by omega⟩
    have g0 : (sq3 τ F S B).1 0 = nI n := hx.1
    have e1 : v = n := by omega
    rw [M_measured_303_s, g0, if_pos (nI_le (by omega) (by omega)), e1]
  | succ d ih =>
    intro v hv fuel hf
    obtain ⟨fuel, rfl⟩ : ∃ z, fuel = z + 1 := ⟨fuel - 1, by omega⟩
    have g0 : (sq3 τ F S B).1 0 = nI n := hx.1
    have g7 : (sq3 τ F S B).2.1 8 v = nI (g v) := hF v (by omega)
    have gi : inb (nI v) 8 = true := inb_nI (by omega) (by decide)
    have hnext := ih (v + 1) (by omega) fuel (by omega)
    rw [fmx_succ] at hnext
    have b1 := hg v (by omega)
    have b2 : fmx g v ≤ 100000 := fmx_le (fun u hu => hg u (by omega))
    rw [M_measured_303_s, g0, if_neg (nI_ge (by omega) (by omega)), grd_t gi, nI_clamp (by omega), g7, nI_1]
    by_cases h : g v ≤ fmx g v
    · rw [if_pos (nI_le h (by omega))]
      rw [Nat.max_eq_left h] at hnext
      exact hnext
    · rw [if_neg (nI_ge (by omega) (by omega)), grd_t gi]
      rw [Nat.max_eq_right (by omega)] at hnext
      exact hnext
theorem M_la (hx : NM τ n m root fr to pr co cu dm) (hn : n ≤ 8) (hm : m ≤ 14) (hE : ends fr to n m) (hx14 : x < 2 ^ 14) (F S B : Nat → Int32) {v : Nat} (hv : v < n) (hN : 20 ≤ N) : M_linesAt N (nI x) (nI v) (sq3 τ F S B) = some (nI (la fr to m x v)) := by
  have loop : ∀ (d e : Nat), e + d = m → ∀ fuel, d < fuel → M_linesAt_5 N fuel (nI x) (nI v) (nI (la fr to e x v)) (nI e) (sq3 τ F S B) = some (nI (la fr to m x v)) := by
    intro d
    induction d with
    | zero =>
      intro e he fuel hf
      obtain ⟨fuel, rfl⟩ : ∃ z, fuel = z + 1 := ⟨fuel - 1, by omega⟩
      have g : (sq3 τ F S B).1 1 = nI m := hx.2.1
      have e1 : e = m := by omega
      rw [M_linesAt_5_s, g, if_pos (nI_le (by omega) (by omega)), e1]
    | succ d ih =>
      intro e he fuel hf
      obtain ⟨fuel, rfl⟩ : ∃ z, fuel = z + 1 := ⟨fuel - 1, by omega⟩
      have g : (sq3 τ F S B).1 1 = nI m := hx.2.1
      have hnext := ih (e + 1) (by omega) fuel (by omega)
      have hla : la fr to (e + 1) x v = la fr to e x v + if (x.testBit e && (decide (fr e = v) || decide (to e = v))) = true then 1 else 0 := fb_ct_succ _ _
      rw [hla] at hnext
      have hE1 := hE e (by omega)
      have g0 : (sq3 τ F S B).2.1 0 e = nI (fr e) := (hx.2.2.2.1 e (by omega)).1
      have g1 : (sq3 τ F S B).2.1 1 e = nI (to e) := (hx.2.2.2.1 e (by omega)).2.1
      have gi : inb (nI e) 14 = true := inb_nI (by omega) (by decide)
      rw [M_linesAt_5_s, g, if_neg (nI_ge (by omega) (by omega)), M_has_nI (by omega) (by omega), nI_1]
      by_cases hb : x.testBit e = true
      · rw [if_pos hb, if_neg (by decide), grd_t gi, nI_clamp (by omega), g0]
        by_cases h1 : fr e = v
        · rw [if_pos ((nI_eq (by omega) (by omega)).mpr h1), nI_1]
          rw [if_pos (by simp [hb, h1])] at hnext
          exact hnext
        · rw [if_neg (fun z => h1 ((nI_eq (by omega) (by omega)).mp z)), grd_t gi, g1]
          by_cases h2 : to e = v
          · rw [if_pos ((nI_eq (by omega) (by omega)).mpr h2), nI_1]
            rw [if_pos (by simp [hb, h2])] at hnext
            exact hnext
          · rw [if_neg (fun z => h2 ((nI_eq (by omega) (by omega)).mp z)), show (0 : Int32) = nI 0 from rfl, nI_add]
            rw [if_neg (by simp [h1, h2])] at hnext
            exact hnext
      · rw [if_neg hb, if_pos rfl, show (0 : Int32) = nI 0 from rfl, nI_add]
        rw [if_neg (by simp [hb])] at hnext
        exact hnext
  unfold M_linesAt
  have h := loop m 0 (by omega) N (by omega)
  exact h
theorem la_le (fr to : Nat → Nat) (m x v : Nat) : la fr to m x v ≤ pck m x := fb_ct_sub (fun k _ h => (Bool.and_eq_true _ _ ▸ h).1)
theorem M_max1 (hx : NM τ n m root fr to pr co cu dm) (hn : n ≤ 8) (hm : m ≤ 14) (hE : ends fr to n m) (hx14 : x < 2 ^ 14) (F S B : Nat → Int32) (hN : 20 ≤ N) : ∀ (d v : Nat), v + d = n → ∀ fuel, d < fuel → M_measured_89 N fuel (nI x) (nI (fmx (la fr to m x) v)) (nI v) (sq3 τ F S B) = some (nI (fmx (la fr to m x) n)) := by
  have hg : ∀ v, la fr to m x v ≤ 14 := fun v => Nat.le_trans (fb_ct_le _ m) hm
  intro d
  induction d with
  | zero =>
    intro v hv fuel hf
    obtain ⟨fuel, rfl⟩ : ∃ z, fuel = z + 1 := ⟨fuel - 1, by omega⟩
    have g0 : (sq3 τ F S B).1 0 = nI n := hx.1
    have e1 : v = n := by omega
    rw [M_measured_89_s, g0, if_pos (nI_le (by omega) (by omega)), e1]
  | succ d ih =>
    intro v hv fuel hf
    obtain ⟨fuel, rfl⟩ : ∃ z, fuel = z + 1 := ⟨fuel - 1, by omega⟩
    have g0 : (sq3 τ F S B).1 0 = nI n := hx.1
    have hnext := ih (v + 1) (by omega) fuel (by omega)
    rw [fmx_succ] at hnext
    have b1 := hg v
    have b2 : fmx (la fr to m x) v ≤ 14 := fmx_le (fun u hu => hg u)
    have hl := M_la (N := N) hx hn hm hE hx14 F S B (show v < n by omega) hN
    rw [M_measured_89_s, g0, if_neg (nI_ge (by omega) (by omega)), bnd_t hl, nI_1]
    by_cases h : la fr to m x v ≤ fmx (la fr to m x) v
    · rw [if_pos (nI_le h (by omega))]
      rw [Nat.max_eq_left h] at hnext
      exact hnext
    · rw [if_neg (nI_ge (by omega) (by omega)), bnd_t hl]
      rw [Nat.max_eq_right (by omega)] at hnext
      exact hnext
theorem M_max3 (hx : NM τ n m root fr to pr co cu dm) (hn : n ≤ 8) (hm : m ≤ 14) (hroot : root < n) (hdm : ∀ v, v < 8 → dm v ≤ 99) {bN : Nat → Nat} {F S B : Nat → Int32} (hB0 : B root = -1) (hB : ∀ v, v < n → v ≠ root → B v = nI (bN v) ∧ bN v < m) (hN : 20 ≤ N) : M_measured_175 N N 0 0 (sq3 τ F S B) = some (nI (fmx (fun e => fb_sm (fun v => if v ≠ root ∧ bN v = e then dm v else 0) n) m)) := by
  have hb : ∀ e v, v ≤ n → fb_sm (fun v => if v ≠ root ∧ bN v = e then dm v else 0) v ≤ v * 99 := fun e v hv => fb_sm_bound (fun k hk => by
    split
    · exact hdm k (by omega)
    · omega)
  have inner : ∀ (e : Nat) (_ : e < m) (k : Int32 → Int32 → Int32 → St → Option Int32) (x3 : Int32) (d v : Nat), v + d = n → ∀ fuel, d < fuel → M_measured_190 N k fuel x3 (nI (fb_sm (fun v => if v ≠ root ∧ bN v = e then dm v else 0) v)) (nI e) (nI v) (sq3 τ F S B) = k x3 (nI (fb_sm (fun v => if v ≠ root ∧ bN v = e then dm v else 0) n)) (nI e) (sq3 τ F S B) := by
    intro e he k x3 d
    induction d with
    | zero =>
      intro v hv fuel hf
      obtain ⟨fuel, rfl⟩ : ∃ z, fuel = z + 1 := ⟨fuel - 1, by omega⟩
      have g0 : (sq3 τ F S B).1 0 = nI n := hx.1
      have e1 : v = n := by omega
      rw [M_measured_190_s, g0, if_pos (nI_le (by omega) (by omega)), e1]
    | succ d ih =>
      intro v hv fuel hf
      obtain ⟨fuel, rfl⟩ : ∃ z, fuel = z + 1 := ⟨fuel - 1, by omega⟩
      have g0 : (sq3 τ F S B).1 0 = nI n := hx.1
      have g9 : (sq3 τ F S B).2.1 9 v = B v := rfl
      have g6 : (sq3 τ F S B).2.1 6 v = nI (dm v) := hx.2.2.2.2.2 v (by omega)
      have gi : inb (nI v) 8 = true := inb_nI (by omega) (by decide)
      have hnext := ih (v + 1) (by omega) fuel (by omega)
      rw [fb_sm_succ] at hnext
      rw [M_measured_190_s, g0, if_neg (nI_ge (by omega) (by omega)), grd_t gi, nI_clamp (by omega), g9, nI_1]
      by_cases h : v ≠ root ∧ bN v = e
      · rw [if_pos (by rw [(hB v (by omega) h.1).1, h.2]), grd_t gi, g6, nI_add]
        rw [if_pos h] at hnext
        exact hnext
      · have hne : ¬ B v = nI e := by
          intro z
          apply h
          by_cases y : v = root
          · rw [y, hB0] at z
            exact absurd z.symm (nI_m1 (by omega))
          · have := hB v (by omega) y
            rw [this.1] at z
            exact ⟨y, (nI_eq (by omega) (by omega)).mp z⟩
        rw [if_neg hne, show (0 : Int32) = nI 0 from rfl, nI_add]
        rw [if_neg h] at hnext
        exact hnext
  have outer : ∀ (d e : Nat), e + d = m → ∀ fuel, d < fuel → M_measured_175 N fuel (nI (fmx (fun e => fb_sm (fun v => if v ≠ root ∧ bN v = e then dm v else 0) n) e)) (nI e) (sq3 τ F S B) = some (nI (fmx (fun e => fb_sm (fun v => if v ≠ root ∧ bN v = e then dm v else 0) n) m)) := by
    intro d
    induction d with
    | zero =>
      intro e he fuel hf
      obtain ⟨fuel, rfl⟩ : ∃ z, fuel = z + 1 := ⟨fuel - 1, by omega⟩
      have g : (sq3 τ F S B).1 1 = nI m := hx.2.1
      have e1 : e = m := by omega
      rw [M_measured_175_s, g, if_pos (nI_le (by omega) (by omega)), e1]
    | succ d ih =>
      intro e he fuel hf
      obtain ⟨fuel, rfl⟩ : ∃ z, fuel = z + 1 := ⟨fuel - 1, by omega⟩
      have g : (sq3 τ F S B).1 1 = nI m := hx.2.1
      have hnext := ih (e + 1) (by omega) fuel (by omega)
      rw [fmx_succ] at hnext
      rw [M_measured_175_s, g, if_neg (nI_ge (by omega) (by omega))]
      have hi := inner e (by omega) (M_measured_233 N (M_measured_175 N fuel)) (nI (fmx (fun e => fb_sm (fun v => if v ≠ root ∧ bN v = e then dm v else 0) n) e)) n 0 (by omega) N (by omega)
      have hi2 : M_measured_190 N (M_measured_233 N (M_measured_175 N fuel)) N (nI (fmx (fun e => fb_sm (fun v => if v ≠ root ∧ bN v = e then dm v else 0) n) e)) 0 (nI e) 0 (sq3 τ F S B) = _ := hi
      rw [hi2]
      unfold M_measured_233
      rw [nI_1]
      have b1 := hb e n (Nat.le_refl n)
      have b2 : fmx (fun e => fb_sm (fun v => if v ≠ root ∧ bN v = e then dm v else 0) n) e ≤ 800 := fmx_le (fun u hu => by have := hb u n (Nat.le_refl n); omega)
      by_cases h : fb_sm (fun v => if v ≠ root ∧ bN v = e then dm v else 0) n ≤ fmx (fun e => fb_sm (fun v => if v ≠ root ∧ bN v = e then dm v else 0) n) e
      · rw [if_pos (nI_le h (by omega))]
        rw [Nat.max_eq_left h] at hnext
        exact hnext
      · rw [if_neg (nI_ge (by omega) (by omega))]
        rw [Nat.max_eq_right (by omega)] at hnext
        exact hnext
  have h := outer m 0 (by omega) N (by omega)
  exact h
end MM
