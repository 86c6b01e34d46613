/-! limits: what a tree breaks, by the reference and by the class -/
def crd (dg la : Nat → Nat) (n : Nat) : Bool := (List.range n).any (fun v => decide (dg v < la v))
def brk (dg : Nat → Nat) (dep lod rf rt wy n : Nat) (la : Nat → Nat) (D L R W : Nat) : Nat := (if crd dg la n = true then 1 else 0) + (if dep < D then 2 else 0) + (if lod < L then 4 else 0) + (if R < rf ∨ rt < R then 8 else 0) + (if wy < W then 16 else 0)
theorem brk_lt (dg : Nat → Nat) (dep lod rf rt wy n : Nat) (la : Nat → Nat) (D L R W : Nat) : brk dg dep lod rf rt wy n la D L R W < 32 := by
  unfold brk
  split <;> split <;> split <;> split <;> split <;> omega
theorem crd_succ (dg la : Nat → Nat) (n : Nat) : crd dg la (n + 1) = (crd dg la n || decide (dg n < la n)) := by
  unfold crd
  rw [List.range_succ, List.any_append]
  simp
theorem crd_iff {dg la : Nat → Nat} {n : Nat} : crd dg la n = true ↔ ∃ v, v < n ∧ dg v < la v := by
  unfold crd
  simp [List.any_eq_true]
theorem or1 : ∀ a, a < 2 → nI a ||| 1 = nI 1 := by decide +kernel
theorem or2 : ∀ a, a < 2 → nI a ||| 2 = nI (a + 2) := by decide +kernel
theorem or4 : ∀ a, a < 4 → nI a ||| 4 = nI (a + 4) := by decide +kernel
theorem or8 : ∀ a, a < 8 → nI a ||| 8 = nI (a + 8) := by decide +kernel
theorem or16 : ∀ a, a < 16 → nI a ||| 16 = nI (a + 16) := by decide +kernel
/-- limits as the reference holds them -/
def LM (τ : St) (dg : Nat → Nat) (dep lod rf rt wy : Nat) : Prop := τ.1 3 = nI dep ∧ τ.1 4 = nI lod ∧ τ.1 5 = nI rf ∧ τ.1 6 = nI rt ∧ τ.1 7 = nI wy ∧ ∀ v, v < 8 → τ.2.1 5 v = nI (dg v)
def WL (dg : Nat → Nat) (dep lod rf rt wy : Nat) : Prop := (∀ v, v < 8 → dg v ≤ 14) ∧ dep ≤ 7 ∧ lod ≤ 9999 ∧ rf ≤ 14 ∧ rt ≤ 14 ∧ wy ≤ 9999
theorem M_lies_nI {a b c : Nat} (ha : a < 2 ^ 31) (hb : b < 2 ^ 31) (hc : c < 2 ^ 31) : M_lies (nI a) (nI b) (nI c) = if a < b ∨ c < a then 0 else 1 := by
  unfold M_lies
  by_cases h1 : a < b
  · rw [if_pos ((nI_ltI ha hb).mpr h1), if_pos (Or.inl h1)]
  · rw [if_neg (fun z => h1 ((nI_ltI ha hb).mp z))]
    by_cases h2 : c < a
    · rw [if_pos ((nI_ltI hc ha).mpr h2), if_pos (Or.inr h2)]
    · rw [if_neg (fun z => h2 ((nI_ltI hc ha).mp z)), if_neg (by omega)]
theorem M_broken_ok {τ : St} {n m root : Nat} {fr to pr co cu dm : Nat → Nat} {dg : Nat → Nat} {dep lod rf rt wy : Nat} (hx : NM τ n m root fr to pr co cu dm) (hl : LM τ dg dep lod rf rt wy) (hw : WL dg dep lod rf rt wy) (hn : n ≤ 8) (hm : m ≤ 14) (hE : ends fr to n m) {N x : Nat} (hN : 20 ≤ N) (hx14 : x < 2 ^ 14) {F S B : Nat → Int32} {D L R W : Nat} (h2 : M_measured N (nI x) 2 (sq3 τ F S B) = some (nI D)) (h3 : M_measured N (nI x) 3 (sq3 τ F S B) = some (nI L)) (h4 : M_measured N (nI x) 4 (sq3 τ F S B) = some (nI R)) (h5 : M_measured N (nI x) 5 (sq3 τ F S B) = some (nI W)) (bD : D < 2 ^ 31) (bL : L < 2 ^ 31) (bR : R < 2 ^ 31) (bW : W < 2 ^ 31) : M_broken N (nI x) (sq3 τ F S B) = some (nI (brk dg dep lod rf rt wy n (la fr to m x) D L R W)) := by
  obtain ⟨l1, l2, l3, l4, l5, l6⟩ := hl
  obtain ⟨w1, w2, w3, w4, w5, w6⟩ := hw
  have hg : ∀ v, la fr to m x v ≤ 14 := fun v => Nat.le_trans (fb_ct_le _ m) hm
  have loop : ∀ (k : Int32 → Int32 → St → Option Int32) (d v : Nat), v + d = n → ∀ fuel, d < fuel → M_broken_4 N k fuel (nI x) (nI (if crd dg (la fr to m x) v = true then 1 else 0)) (nI v) (sq3 τ F S B) = k (nI x) (nI (if crd dg (la fr to m x) n = true then 1 else 0)) (sq3 τ F S B) := by
    intro k d
    induction d with
    | zero =>
      intro v hv fuel hf
      obtain ⟨fuel, rfl⟩ : ∃ z, fuel = z + 1 := ⟨fuel - 1, by omega⟩
      have g0 : (sq3 τ F S B).1 0 = nI n := hx.1
      have e1 : v = n := by omega
      rw [M_broken_4_s, g0, if_pos (nI_le (by omega) (by omega)), e1]
    | succ d ih =>
      intro v hv fuel hf
      obtain ⟨fuel, rfl⟩ : ∃ z, fuel = z + 1 := ⟨fuel - 1, by omega⟩
      have g0 : (sq3 τ F S B).1 0 = nI n := hx.1
      have g5 : (sq3 τ F S B).2.1 5 v = nI (dg v) := l6 v (by omega)
      have hnext := ih (v + 1) (by omega) fuel (by omega)
      rw [crd_succ] at hnext
      have b1 := hg v
      have b2 := w1 v (by omega)
      rw [M_broken_4_s, g0, if_neg (nI_ge (by omega) (by omega)), bnd_t (M_la hx hn hm hE hx14 F S B (by omega) hN), grd_t (inb_nI (by omega) (by decide)), nI_clamp (by omega), g5, nI_1]
      by_cases h : dg v < la fr to m x v
      · rw [if_neg (nI_ge h (by omega)), or1 _ (by split <;> omega)]
        rw [decide_eq_true h, Bool.or_true, if_pos rfl] at hnext
        exact hnext
      · rw [if_pos (nI_le (by omega) (by omega))]
        rw [decide_eq_false h, Bool.or_false] at hnext
        exact hnext
  unfold M_broken
  have h0 := loop (M_broken_37 N) n 0 (by omega) N (by omega)
  have h0' : M_broken_4 N (M_broken_37 N) N (nI x) 0 0 (sq3 τ F S B) = _ := h0
  rw [h0']
  obtain ⟨b0, hb0, hb0l⟩ : ∃ b0, b0 = (if crd dg (la fr to m x) n = true then 1 else 0) ∧ b0 < 2 := ⟨_, rfl, by split <;> omega⟩
  rw [← hb0]
  have g3 : (sq3 τ F S B).1 3 = nI dep := l1
  have g4 : (sq3 τ F S B).1 4 = nI lod := l2
  have g5 : (sq3 τ F S B).1 5 = nI rf := l3
  have g6 : (sq3 τ F S B).1 6 = nI rt := l4
  have g7 : (sq3 τ F S B).1 7 = nI wy := l5
  have s96 : ∀ b, b < 16 → M_broken_96 N (nI x) (nI b) (sq3 τ F S B) = some (nI (b + if wy < W then 16 else 0)) := by
    intro b hb
    unfold M_broken_96
    rw [bnd_t h5, g7]
    by_cases h : wy < W
    · rw [if_neg (nI_ge h bW), if_pos h, or16 b hb]
    · rw [if_pos (nI_le (by omega) (by omega)), if_neg h, Nat.add_zero]
  have s71 : ∀ b, b < 8 → M_broken_71 N (nI x) (nI b) (sq3 τ F S B) = some (nI (b + (if R < rf ∨ rt < R then 8 else 0) + if wy < W then 16 else 0)) := by
    intro b hb
    unfold M_broken_71
    rw [bnd_t h4, g5, g6, M_lies_nI bR (by omega) (by omega)]
    by_cases h : R < rf ∨ rt < R
    · rw [if_pos h, if_pos rfl, if_pos h, or8 b hb, s96 (b + 8) (by omega)]
    · rw [if_neg h, if_neg (by decide), if_neg h, Nat.add_zero, s96 b (by omega)]
  have s54 : ∀ b, b < 4 → M_broken_54 N (nI x) (nI b) (sq3 τ F S B) = some (nI (b + (if lod < L then 4 else 0) + (if R < rf ∨ rt < R then 8 else 0) + if wy < W then 16 else 0)) := by
    intro b hb
    unfold M_broken_54
    rw [bnd_t h3, g4]
    by_cases h : lod < L
    · rw [if_neg (nI_ge h bL), if_pos h, or4 b hb, s71 (b + 4) (by omega)]
    · rw [if_pos (nI_le (by omega) (by omega)), if_neg h, Nat.add_zero, s71 b (by omega)]
  unfold M_broken_37
  rw [bnd_t h2, g3]
  unfold brk
  rw [← hb0]
  by_cases h : dep < D
  · rw [if_neg (nI_ge h bD), if_pos h, or2 b0 hb0l, s54 (b0 + 2) (by omega)]
  · rw [if_pos (nI_le (by omega) (by omega)), if_neg h, Nat.add_zero, s54 b0 (by omega)]
/-- limits as the class holds them -/
def LX (σ : St) (m : Nat) (co dg : Nat → Nat) (dep lod rf rt wy : Nat) : Prop := σ.1 3 = nI (mk m (fun e => decide (co e = 1))) ∧ σ.1 5 = nI dep ∧ σ.1 6 = nI lod ∧ σ.1 7 = nI rf ∧ σ.1 8 = nI rt ∧ σ.1 9 = nI wy ∧ σ.1 10 = nI (mk 8 (fun v => decide (dg v < 7))) ∧ ∀ v, v < 8 → σ.2.1 5 v = nI (dg v)
theorem pck_ext {k a : Nat} (h : a < 2 ^ k) {j : Nat} (hj : k ≤ j) : pck j a = pck k a := by
  unfold pck
  obtain ⟨d, rfl⟩ : ∃ d, j = k + d := ⟨j - k, by omega⟩
  rw [fb_ct_split]
  have : fb_ct (fun i => a.testBit (k + i)) d = 0 := fb_ct_zero.mpr (fun i _ => Nat.testBit_lt_two_pow (Nat.lt_of_lt_of_le h (Nat.pow_le_pow_right (by decide) (by omega))))
  omega
theorem bc_at {fr to : Nat → Nat} {m x : Nat} (hm : m ≤ 14) (v : Nat) : J_bc (nI x &&& nI (atm fr to m v)) = nI (la fr to m x v) := by
  have h := mk_lt (fun e => decide (fr e = v) || decide (to e = v)) m
  have h1 : x &&& atm fr to m v < 2 ^ m := Nat.lt_of_le_of_lt Nat.and_le_right h
  have h2 := lt14 h1 hm
  rw [fa_and, J_bc_nI (by omega), pck_ext h1 (by omega)]
  congr 1
  exact fb_ct_cong (fun e he => by
    show (x &&& atm fr to m v).testBit e = _
    rw [Nat.testBit_and, atm, mk_bit]; simp [he])
theorem bc_red {co : Nat → Nat} {m x : Nat} (hm : m ≤ 14) (hco : ∀ e, e < m → co e ≤ 1) : J_bc (nI x &&& nI (mk m (fun e => decide (co e = 1)))) = nI (fb_sm (fun e => if x.testBit e = true then co e else 0) m) := by
  have h := mk_lt (fun e => decide (co e = 1)) m
  have h1 : x &&& mk m (fun e => decide (co e = 1)) < 2 ^ m := Nat.lt_of_le_of_lt Nat.and_le_right h
  have h2 := lt14 h1 hm
  rw [fa_and, J_bc_nI (by omega), pck_ext h1 (by omega)]
  congr 1
  have gen : ∀ k, k ≤ m → fb_ct (fun e => (x &&& mk m (fun e => decide (co e = 1))).testBit e) k = fb_sm (fun e => if x.testBit e = true then co e else 0) k := by
    intro k
    induction k with
    | zero => intro _; rfl
    | succ k ih =>
      intro hk
      rw [fb_ct_succ, fb_sm_succ, ih (by omega)]
      congr 1
      rw [Nat.testBit_and, mk_bit]
      have := hco k (by omega)
      by_cases hb : x.testBit k = true
      · by_cases hc : co k = 1
        · simp [hb, hc, show k < m by omega]
        · have : co k = 0 := by omega
          simp [hb, this]
      · simp [hb]
  exact gen m (Nat.le_refl m)
theorem Lim_crowd {σ : St} {n m root : Nat} {fr to pr dm co dg : Nat → Nat} {dep lod rf rt wy : Nat} (hx : NX σ n m root fr to pr dm) (hl : LX σ m co dg dep lod rf rt wy) (hw : WL dg dep lod rf rt wy) (hm : m ≤ 14) (hn : n ≤ 8) (hE : ends fr to n m) {N x : Nat} (hN : 20 ≤ N) (hp : pck m x ≤ 7) : Lim_hasCrowdedPost N (nI x) σ = some (if crd dg (la fr to m x) n = true then 1 else 0) := by
  have tb := mk_lt (fun v => decide (dg v < 7)) 8
  have loop : ∀ (k a : Nat), (bl a).length ≤ k → a < 2 ^ 14 → (∀ v, v ∈ bl a → v < 8) → ∀ fuel, k < fuel → Lim_hasCrowdedPost_5 N fuel (nI x) (nI a) σ = some (if (bl a).any (fun v => decide (dg v < la fr to m x v)) = true then 1 else 0) := by
    intro k
    induction k with
    | zero =>
      intro a hll ha _ fuel hf
      obtain ⟨fuel, rfl⟩ : ∃ z, fuel = z + 1 := ⟨fuel - 1, by omega⟩
      have hb0 : bl a = [] := List.length_eq_zero_iff.mp (Nat.le_zero.mp hll)
      have ha0 : a = 0 := by
        rcases Nat.eq_zero_or_pos a with z | z
        · exact z
        · obtain ⟨l, -, -, -, hbl, -⟩ := bl_step z ha
          rw [hb0] at hbl; cases hbl
      rw [Lim_hasCrowdedPost_5_s, if_pos ((nI_z (by omega)).mpr ha0), hb0]
      rfl
    | succ k ih =>
      intro a hll ha hmem fuel hf
      obtain ⟨fuel, rfl⟩ : ∃ z, fuel = z + 1 := ⟨fuel - 1, by omega⟩
      rw [Lim_hasCrowdedPost_5_s]
      rcases Nat.eq_zero_or_pos a with z | z
      · rw [if_pos ((nI_z (by omega)).mpr z), z, bl_zero]; rfl
      · obtain ⟨l, hl14, hlow, hclr, hbl, hlt, -⟩ := bl_step z ha
        have hl8 : l < 8 := hmem l (by rw [hbl]; exact List.mem_cons_self)
        have g1 := (hx.2.2.2.2 l hl8).2
        have g5 := hl.2.2.2.2.2.2.2 l hl8
        have b1 : la fr to m x l ≤ 14 := Nat.le_trans (fb_ct_le _ m) hm
        have b2 := hw.1 l hl8
        rw [if_neg (fun y => by have := (nI_z (by omega)).mp y; omega), hlow, hclr, grd_t (inb_nI hl8 (by decide)), grd_t (inb_nI hl8 (by decide)), nI_clamp (by omega), g1, g5, bc_at hm]
        rw [hbl] at hll hmem ⊢
        by_cases h : dg l < la fr to m x l
        · rw [if_neg (nI_ge h (by omega)), if_pos (by simp [h])]
        · rw [if_pos (nI_le (by omega) (by omega)), ih (a - 2 ^ l) (by simpa using hll) hlt (fun v hv => hmem v (List.mem_cons_of_mem _ hv)) fuel (by omega)]
          simp only [List.any_cons, decide_eq_false h, Bool.false_or]
  unfold Lim_hasCrowdedPost
  rw [hl.2.2.2.2.2.2.1, loop 14 _ (bl_len _) (lt14 tb (by decide)) (fun v hv => by
    have := (bl_mem.mp hv).2
    rw [mk_bit] at this
    simp at this
    exact this.1) N (by omega)]
  congr 1
  have : (bl (mk 8 (fun v => decide (dg v < 7)))).any (fun v => decide (dg v < la fr to m x v)) = crd dg (la fr to m x) n := by
    rw [Bool.eq_iff_iff, List.any_eq_true, crd_iff]
    constructor
    · rintro ⟨v, hv, h⟩
      have h := of_decide_eq_true h
      refine ⟨v, ?_, h⟩
      refine Nat.not_le.mp fun z => ?_
      have : la fr to m x v = 0 := fb_ct_zero.mpr (fun e he => by
        have := hE e he
        simp [show ¬ fr e = v by omega, show ¬ to e = v by omega])
      omega
    · rintro ⟨v, hv, h⟩
      refine ⟨v, bl_mem.mpr ⟨by omega, ?_⟩, decide_eq_true h⟩
      have := la_le fr to m x v
      rw [mk_bit]
      simp [show v < 8 by omega, show dg v < 7 by omega]
  rw [this]
theorem Lim_broken {σ : St} {n m root : Nat} {fr to pr dm co dg : Nat → Nat} {dep lod rf rt wy : Nat} (hx : NX σ n m root fr to pr dm) (hl : LX σ m co dg dep lod rf rt wy) (hw : WL dg dep lod rf rt wy) (hm : m ≤ 14) (hn : n ≤ 8) (hE : ends fr to n m) (hco : ∀ e, e < m → co e ≤ 1) {N x D L W : Nat} (hN : 20 ≤ N) (hp : pck m x ≤ 7) (bD : D < 2 ^ 31) (bL : L < 2 ^ 31) (bW : W < 2 ^ 31) : Lim_brokenBy N (nI x) (nI D) (nI L) (nI W) σ = some (nI (brk dg dep lod rf rt wy n (la fr to m x) D L (fb_sm (fun e => if x.testBit e = true then co e else 0) m) W)) := by
  have hc := Lim_crowd (N := N) (x := x) hx hl hw hm hn hE hN hp
  obtain ⟨l0, l1, l2, l3, l4, l5, l6, l7⟩ := hl
  obtain ⟨w1, w2, w3, w4, w5, w6⟩ := hw
  have hR : Net_redsIn (nI x) σ = nI (fb_sm (fun e => if x.testBit e = true then co e else 0) m) := by
    unfold Net_redsIn
    rw [l0, bc_red hm hco]
  have bR : fb_sm (fun e => if x.testBit e = true then co e else 0) m ≤ m * 1 := fb_sm_bound (fun k hk => by
    split
    · exact hco k hk
    · omega)
  generalize fb_sm (fun e => if x.testBit e = true then co e else 0) m = R at *
  have s79 : ∀ b, b < 16 → Lim_brokenBy_79 N (nI W) (nI b) σ = some (nI (b + if wy < W then 16 else 0)) := by
    intro b hb
    unfold Lim_brokenBy_79
    rw [l5]
    by_cases h : wy < W
    · rw [if_neg (nI_ge h bW), if_pos h, or16 b hb]
    · rw [if_pos (nI_le (by omega) (by omega)), if_neg h, Nat.add_zero]
  have s47 : ∀ b, b < 8 → Lim_brokenBy_47 N (nI x) (nI W) (nI b) σ = some (nI (b + (if R < rf ∨ rt < R then 8 else 0) + if wy < W then 16 else 0)) := by
    intro b hb
    unfold Lim_brokenBy_47
    rw [hR, l3, l4]
    by_cases h : R < rf
    · rw [if_pos ((nI_ltI (by omega) (by omega)).mpr h), if_pos (Or.inl h), or8 b hb, s79 (b + 8) (by omega)]
    · rw [if_neg (fun z => h ((nI_ltI (by omega) (by omega)).mp z))]
      by_cases h2 : rt < R
      · rw [if_neg (nI_ge h2 (by omega)), if_pos (Or.inr h2), or8 b hb, s79 (b + 8) (by omega)]
      · rw [if_pos (nI_le (by omega) (by omega)), if_neg (by omega), Nat.add_zero, s79 b (by omega)]
  have s32 : ∀ b, b < 4 → Lim_brokenBy_32 N (nI x) (nI L) (nI W) (nI b) σ = some (nI (b + (if lod < L then 4 else 0) + (if R < rf ∨ rt < R then 8 else 0) + if wy < W then 16 else 0)) := by
    intro b hb
    unfold Lim_brokenBy_32
    rw [l2]
    by_cases h : lod < L
    · rw [if_neg (nI_ge h bL), if_pos h, or4 b hb, s47 (b + 4) (by omega)]
    · rw [if_pos (nI_le (by omega) (by omega)), if_neg h, Nat.add_zero, s47 b (by omega)]
  have s18 : ∀ b, b < 2 → Lim_brokenBy_18 N (nI x) (nI D) (nI L) (nI W) (nI b) σ = some (nI (b + (if dep < D then 2 else 0) + (if lod < L then 4 else 0) + (if R < rf ∨ rt < R then 8 else 0) + if wy < W then 16 else 0)) := by
    intro b hb
    unfold Lim_brokenBy_18
    rw [l1]
    by_cases h : dep < D
    · rw [if_neg (nI_ge h bD), if_pos h, or2 b hb, s32 (b + 2) (by omega)]
    · rw [if_pos (nI_le (by omega) (by omega)), if_neg h, Nat.add_zero, s32 b (by omega)]
  unfold Lim_brokenBy
  rw [bnd_t hc]
  unfold brk
  by_cases h : crd dg (la fr to m x) n = true
  · rw [if_pos h, if_neg (by decide), if_pos h]
    exact s18 1 (by decide)
  · rw [if_neg h, if_pos rfl, if_neg h]
    exact s18 0 (by decide)
