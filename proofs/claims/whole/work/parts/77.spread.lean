/-! the class's ways from a good tree: one layer -/
theorem low_and {a l q : Nat} (h : a < 2 ^ 14) (hl : l < 14) (e : a = 2 ^ l * (2 * q + 1)) : a &&& (2 ^ 32 - a) = 2 ^ l := by
  have hq : q < 2 ^ (31 - l) := by
    refine Nat.not_le.mp fun z => ?_
    have h1 : 2 ^ l * 2 ^ (31 - l) ≤ 2 ^ l * q := Nat.mul_le_mul_left _ z
    rw [← Nat.pow_add, show l + (31 - l) = 31 by omega] at h1
    have h2 : 2 ^ l * q ≤ a := by rw [e]; exact Nat.mul_le_mul_left _ (by omega)
    omega
  have e2 : 2 ^ 32 - a = 2 ^ l * (2 * (2 ^ (31 - l) - (q + 1)) + 1) := by
    have h1 : (2 : Nat) ^ 32 = 2 ^ l * (2 * 2 ^ (31 - l)) := by rw [← Nat.pow_succ', ← Nat.pow_add]; congr 1; omega
    rw [h1, e, ← Nat.mul_sub]
    congr 1
    omega
  apply Nat.eq_of_testBit_eq
  intro i
  rw [Nat.testBit_and, e2, e, tb_form, tb_form, Nat.testBit_two_pow]
  rcases Nat.lt_trichotomy i l with z | z | z
  · simp [show ¬ i = l by omega, show ¬ l < i by omega, show ¬ l = i by omega]
  · subst z; simp
  · rw [Nat.testBit_two_pow_sub_succ hq]
    simp [show ¬ i = l by omega, show ¬ l = i by omega]
    intro _ z2 _ _
    exact z2
theorem bl_low {a : Nat} (h0 : 0 < a) (h : a < 2 ^ 14) : ∃ l, l < 14 ∧ nI a &&& (-nI a) = nI (2 ^ l) ∧ nI a &&& (nI a - 1) = nI (a - 2 ^ l) ∧ bl a = l :: bl (a - 2 ^ l) ∧ a - 2 ^ l < 2 ^ 14 ∧ a.testBit l = true := by
  obtain ⟨l, h1, -, h3, h4, h5, h6, -⟩ := bl_step h0 h
  obtain ⟨k, q, e⟩ := low_form a h0
  have hkl : k = l := by
    have hk : k ∈ bl a := by
      have tk : a.testBit k = true := by rw [e, tb_form]; simp
      refine bl_mem.mpr ⟨?_, tk⟩
      apply Classical.byContradiction
      intro z
      have : a < 2 ^ k := Nat.lt_of_lt_of_le h (Nat.pow_le_pow_right (by decide) (by omega))
      rw [Nat.testBit_lt_two_pow this] at tk
      cases tk
    have hs : (bl a).Pairwise (· < ·) := List.Pairwise.filter _ List.pairwise_lt_range
    rw [h4] at hk hs
    rcases List.mem_cons.mp hk with z | z
    · exact z
    · have h7 := (List.pairwise_cons.mp hs).1 k z
      rw [e, tb_form] at h6
      simp [show ¬ l = k by omega, show ¬ k < l by omega] at h6
  refine ⟨l, h1, ?_, h3, h4, h5, h6⟩
  rw [nI_neg (by omega), fa_and, low_and h h1 (by rw [← hkl]; exact e)]
theorem and_not_nI {u x : Nat} (hu : u < 2 ^ 14) : nI u &&& (nI x ^^^ (-1)) = nI (mk 14 (fun e => u.testBit e && !x.testBit e)) := by
  refine b_ext (fun i hi => ?_)
  rw [b_and, b_xor, b_m1 i hi, bt_nI hi, bt_nI hi, bt_nI hi, mk_bit]
  by_cases z : i < 14
  · simp [z]
  · have : u.testBit i = false := Nat.testBit_lt_two_pow (Nat.lt_of_lt_of_le hu (Nat.pow_le_pow_right (by decide) (by omega)))
    simp [this]
def AgR (σ0 σ : St) : Prop := (∀ k, k < 23 → σ.1 k = σ0.1 k) ∧ (∀ k, k ≠ 17 → σ.2.1 k = σ0.2.1 k) ∧ (∀ k, k ≠ 1 → σ.2.2 k = σ0.2.2 k)
theorem AgR.si {σ0 σ : St} (h : AgR σ0 σ) {k : Nat} (hk : 23 ≤ k) (v : Int32) : AgR σ0 (si σ k v) := ⟨fun j hj => by rw [si_ne _ _ (by omega)]; exact h.1 j hj, h.2.1, h.2.2⟩
theorem AgR.sa {σ0 σ : St} (h : AgR σ0 σ) (i : Nat) (v : Int32) : AgR σ0 (sa σ 17 i v) := ⟨h.1, fun j hj => by rw [sa_ne _ _ _ hj]; exact h.2.1 j hj, h.2.2⟩
theorem AgR.sj {σ0 σ : St} (h : AgR σ0 σ) (i : Nat) (v : Int64) : AgR σ0 (sj σ 1 i v) := ⟨h.1, h.2.1, fun j hj => (up_n _ _ hj).trans (h.2.2 j hj)⟩
def lu (G : List Nat) : Nat := mk 14 (fun e => G.any (fun x => x.testBit e))
/-- where the class's list and its route stand -/
def SX (σ0 : St) (P G : List Nat) (m c : Nat) : Prop := GX G m c ∧ (∀ i, i < G.length → P.getD i 0 < 1280) ∧ (∀ i j, i < G.length → j < G.length → P.getD i 0 = P.getD j 0 → i = j) ∧ σ0.1 18 = nI G.length ∧ (∀ i, i < G.length → σ0.2.1 13 i = nI (P.getD i 0) ∧ σ0.2.1 6 (P.getD i 0) = nI (G.getD i 0)) ∧ (∀ σ, AgR σ0 σ → ∀ i, i < G.length → ∀ N, TL_placeOf N (nI (G.getD i 0)) σ = some (nI (P.getD i 0)))
def RS (σ0 σ : St) (P G : List Nat) (g l : Nat) (R : Nat → Bool) : Prop := AgR σ0 σ ∧ σ.1 23 = nI (P.getD g 0) ∧ σ.1 25 = nI l ∧ σ.1 24 = nI (lu G) ∧ (∀ i, i < G.length → σ.2.1 17 (P.getD i 0) = if RI G.length (adjG G) g l i = true then nI (ds G.length (adjG G) g l i) else if R i = true then nI (l + 1) else -1) ∧ WB σ 1 (fun z => (List.range G.length).any (fun i => decide (G.getD i 0 = z) && !(RI G.length (adjG G) g l i || R i))) ∧ (∀ i, i < G.length → R i = true → RI G.length (adjG G) g (l + 1) i = true)
def R26 (σ : St) (K : Nat) (R : Nat → Bool) : Prop := (σ.1 26 = 0 ∧ ∀ i, i < K → R i = false) ∨ σ.1 26 = 1
section SPR
variable {σ0 : St} {P G : List Nat} {m c g l : Nat}
theorem has_ri (h : GX G m c) {R : Nat → Bool} {z : Nat} : (List.range G.length).any (fun i => decide (G.getD i 0 = z) && !(RI G.length (adjG G) g l i || R i)) = true ↔ ∃ i, i < G.length ∧ G.getD i 0 = z ∧ RI G.length (adjG G) g l i = false ∧ R i = false := by
  rw [List.any_eq_true]
  constructor
  · rintro ⟨i, hi, e⟩
    rw [Bool.and_eq_true, decide_eq_true_iff, Bool.not_eq_true', Bool.or_eq_false_iff] at e
    exact ⟨i, List.mem_range.mp hi, e.1, e.2.1, e.2.2⟩
  · rintro ⟨i, hi, e1, e2, e3⟩
    refine ⟨i, List.mem_range.mpr hi, ?_⟩
    rw [Bool.and_eq_true, decide_eq_true_iff, Bool.not_eq_true', Bool.or_eq_false_iff]
    exact ⟨e1, e2, e3⟩
theorem WB_cong {σ : St} {k : Nat} {p q : Nat → Bool} (h : WB σ k p) (e : ∀ z, p z = q z) : WB σ k q := by
  rw [show q = p from funext fun z => (e z).symm]
  exact h
theorem WB_same {σ σ' : St} {k : Nat} {p : Nat → Bool} (h : WB σ k p) (e : σ'.2.2 k = σ.2.2 k) : WB σ' k p := fun w hw => by rw [e]; exact h w hw
theorem reach_ok (hs : SX σ0 P G m c) {σ : St} {R : Nat → Bool} (hr : RS σ0 σ P G g l R) {i : Nat} (hi : i < G.length) (h1 : RI G.length (adjG G) g l i = false) (h2 : RI G.length (adjG G) g (l + 1) i = true) (N : Nat) : ∃ σ', Rt_reach N (nI (G.getD i 0)) σ = some σ' ∧ RS σ0 σ' P G g l (fun t => R t || decide (t = i)) ∧ σ'.1 26 = 1 := by
  obtain ⟨s1, s2, s3, s4, s5, s6⟩ := hs
  obtain ⟨r1, r2, r3, r4, r5, r6, r7⟩ := hr
  have hz := s1.2.1 _ (getD_mem hi)
  have p14 : 2 ^ m ≤ 2 ^ 14 := Nat.pow_le_pow_right (by decide) s1.2.2.1
  have pi := s2 i hi
  unfold Rt_reach
  rw [bnd_t (s6 σ r1 i hi N), if_neg (nI_m1 (by omega)), grd_t (inb_nI pi (by decide)), nI_clamp (by omega), r3, nI_1]
  unfold lt
  dsimp only
  rw [bnd_t (Un_drop_ok _ N (show G.getD i 0 < 2 ^ 14 by omega))]
  refine ⟨_, rfl, ⟨((r1.sa _ _).sj _ _).si (by decide) _, ?_, ?_, ?_, fun t ht => ?_, ?_, fun t ht hR => ?_⟩, si_same _ _ _⟩
  · rw [si_ne _ _ (by decide)]; exact r2
  · rw [si_ne _ _ (by decide)]; exact r3
  · rw [si_ne _ _ (by decide)]; exact r4
  · show (sa σ 17 (P.getD i 0) (nI (l + 1))).2.1 17 (P.getD t 0) = _
    rw [sa_same]
    by_cases z : t = i
    · subst z
      rw [upd_s, h1, if_neg (by decide), if_pos (by simp)]
    · rw [upd_n _ _ (fun e => z (s3 t i ht hi e)), r5 t ht]
      simp [z]
  · have hw := WB_same (σ' := sa σ 17 (P.getD i 0) (nI (l + 1))) r6 rfl
    refine WB_same (WB_cong (WB_drop hw (x := G.getD i 0) (by omega)) (fun z => ?_)) rfl
    rw [Bool.eq_iff_iff, Bool.and_eq_true, has_ri s1, has_ri s1, Bool.not_eq_true', decide_eq_false_iff_not]
    constructor
    · rintro ⟨⟨t, t1, t2, t3, t4⟩, hne⟩
      refine ⟨t, t1, t2, t3, ?_⟩
      rw [t4, Bool.false_or, decide_eq_false_iff_not]
      intro e
      rw [← t2, e] at hne
      exact hne rfl
    · rintro ⟨t, t1, t2, t3, t4⟩
      rw [Bool.or_eq_false_iff, decide_eq_false_iff_not] at t4
      exact ⟨⟨t, t1, t2, t3, t4.1⟩, fun e => t4.2 (srt_inj s1.1 t1 hi (by rw [t2, e]))⟩
  · by_cases z : t = i
    · rw [z]; exact h2
    · have : R t = true := by simpa [z] using hR
      exact r7 t ht this
theorem spread23_ok (hs : SX σ0 P G m c) {N : Nat} {j a : Nat} (hj : j < G.length) (hjr : RI G.length (adjG G) g l j = true) (ha : a < 14) (hab : (G.getD j 0).testBit a = true) (k : Int32 → Int32 → St → Option St) (x2 : Int32) : ∀ (d y : Nat), y < 2 ^ 14 → (bl y).length ≤ d → (∀ b, y.testBit b = true → (G.getD j 0).testBit b = false) → ∀ fuel, d < fuel → ∀ (σ : St) (R : Nat → Bool), RS σ0 σ P G g l R → R26 σ G.length R → ∃ σ' R', Rt_spread_23 N k fuel (nI (G.getD j 0)) x2 (nI (G.getD j 0 ^^^ 2 ^ a)) (nI y) σ = k (nI (G.getD j 0)) x2 σ' ∧ RS σ0 σ' P G g l R' ∧ R26 σ' G.length R' ∧ (∀ i, R i = true → R' i = true) ∧ ∀ b, y.testBit b = true → ∀ i, i < G.length → G.getD i 0 = (G.getD j 0 ^^^ 2 ^ a) ||| 2 ^ b → RI G.length (adjG G) g l i = true ∨ R' i = true := by
  have s1 := hs.1
  have hz := s1.2.1 _ (getD_mem hj)
  have p14 : 2 ^ m ≤ 2 ^ 14 := Nat.pow_le_pow_right (by decide) s1.2.2.1
  intro d
  induction d with
  | zero =>
    intro y hy hl hyb fuel hf σ R hr h26
    obtain ⟨fuel, rfl⟩ : ∃ z, fuel = z + 1 := ⟨fuel - 1, by omega⟩
    have y0 : y = 0 := by
      apply Classical.byContradiction
      intro z
      obtain ⟨l', -, -, -, e, -, -⟩ := bl_low (show 0 < y by omega) hy
      rw [e] at hl
      simp at hl
    subst y0
    rw [Rt_spread_23_s, if_pos (by decide)]
    exact ⟨σ, R, rfl, hr, h26, fun _ h => h, fun b hb => by simp at hb⟩
  | succ d ih =>
    intro y hy hl hyb fuel hf σ R hr h26
    obtain ⟨fuel, rfl⟩ : ∃ z, fuel = z + 1 := ⟨fuel - 1, by omega⟩
    by_cases y0 : y = 0
    · subst y0
      rw [Rt_spread_23_s, if_pos (by decide)]
      exact ⟨σ, R, rfl, hr, h26, fun _ h => h, fun b hb => by simp at hb⟩
    · obtain ⟨b, b1, b2, b3, b4, b5, b6⟩ := bl_low (show 0 < y by omega) hy
      have hbb := hyb b b6
      have z14 : (G.getD j 0 ^^^ 2 ^ a) ||| 2 ^ b < 2 ^ 14 := Nat.or_lt_two_pow (Nat.xor_lt_two_pow (by omega) (Nat.pow_lt_pow_right (by decide) ha)) (Nat.pow_lt_pow_right (by decide) b1)
      have rest : ∀ e, y.testBit e = true → e = b ∨ (y - 2 ^ b).testBit e = true := fun e he => by
        have e14 : e < 14 := by
          apply Classical.byContradiction
          intro z
          rw [Nat.testBit_lt_two_pow (Nat.lt_of_lt_of_le hy (Nat.pow_le_pow_right (by decide) (by omega)))] at he
          cases he
        have : e ∈ bl y := bl_mem.mpr ⟨e14, he⟩
        rw [b4] at this
        rcases List.mem_cons.mp this with z | z
        · exact Or.inl z
        · exact Or.inr (bl_mem.mp z).2
      have back : ∀ e, (y - 2 ^ b).testBit e = true → y.testBit e = true := fun e he => by
        have e14 : e < 14 := by
          apply Classical.byContradiction
          intro z
          rw [Nat.testBit_lt_two_pow (Nat.lt_of_lt_of_le b5 (Nat.pow_le_pow_right (by decide) (by omega)))] at he
          cases he
        have : e ∈ bl y := by rw [b4]; exact List.mem_cons_of_mem _ (bl_mem.mpr ⟨e14, he⟩)
        exact (bl_mem.mp this).2
      have hl' : (bl (y - 2 ^ b)).length ≤ d := by rw [b4, List.length_cons] at hl; omega
      rw [Rt_spread_23_s, if_neg (fun z => y0 ((nI_z (by omega)).mp z)), b2, fa_or, bnd_t (Un_has_ok hr.2.2.2.2.2.1 N z14), b3]
      have hr' := hr
      by_cases hh : (List.range G.length).any (fun i => decide (G.getD i 0 = (G.getD j 0 ^^^ 2 ^ a) ||| 2 ^ b) && !(RI G.length (adjG G) g l i || R i)) = true
      · rw [if_pos hh, if_neg (by decide)]
        obtain ⟨i, i1, i2, i3, i4⟩ := (has_ri s1).mp hh
        have hadj : adjG G j i = true := by
          unfold adjG
          rw [i2]
          exact decide_eq_true (swap_two ha b1 hab hbb)
        obtain ⟨σ1, q1, q2, q3⟩ := reach_ok hs hr i1 i3 (RI_next.mpr (Or.inr ⟨j, hj, hjr, hadj⟩)) N
        rw [← i2, bnd_t q1]
        obtain ⟨σ', R', w1, w2, w3, w4, w5⟩ := ih (y - 2 ^ b) b5 hl' (fun e he => hyb e (back e he)) fuel (by omega) σ1 _ q2 (Or.inr q3)
        refine ⟨σ', R', w1, w2, w3, fun t ht => w4 t (by rw [ht]; rfl), fun e he t ht et => ?_⟩
        rcases rest e he with z | z
        · subst z
          have : t = i := srt_inj s1.1 ht i1 (by rw [et, i2])
          rw [this]
          exact Or.inr (w4 i (by simp))
        · exact w5 e z t ht et
      · rw [if_neg hh, if_pos rfl]
        obtain ⟨σ', R', w1, w2, w3, w4, w5⟩ := ih (y - 2 ^ b) b5 hl' (fun e he => hyb e (back e he)) fuel (by omega) σ R hr h26
        refine ⟨σ', R', w1, w2, w3, w4, fun e he t ht et => ?_⟩
        rcases rest e he with z | z
        · subst z
          apply Classical.byContradiction
          intro no
          refine hh ((has_ri s1).mpr ⟨t, ht, et, Bool.eq_false_iff.mpr fun q => no (Or.inl q), Bool.eq_false_iff.mpr fun q => no (Or.inr (w4 t q))⟩)
        · exact w5 e z t ht et
end SPR
