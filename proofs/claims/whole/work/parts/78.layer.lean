/-! the class's ways from a good tree: all layers -/
theorem RI_full {K : Nat} {adj : Nat → Nat → Bool} {g : Nat} (hg : g < K) {l : Nat} (hl : K ≤ l) : ∀ i, i < K → ∀ d, RI K adj g (l + d) i = RI K adj g l i := by
  have key : ∀ l, (∃ k, k ≤ l ∧ ∀ i, i < K → RI K adj g (k + 1) i = RI K adj g k i) ∨ l + 1 ≤ fb_ct (fun i => RI K adj g l i) K := by
    intro l
    induction l with
    | zero =>
      right
      exact fb_ct_pos.mpr ⟨g, hg, decide_eq_true rfl⟩
    | succ l ih =>
      rcases ih with ⟨k, k1, k2⟩ | h
      · exact Or.inl ⟨k, by omega, k2⟩
      · by_cases z : ∀ i, i < K → RI K adj g (l + 1) i = RI K adj g l i
        · exact Or.inl ⟨l, by omega, z⟩
        · right
          obtain ⟨i, hi⟩ := Classical.not_forall.mp z
          obtain ⟨hi1, hi2⟩ := Classical.not_imp.mp hi
          have hf : RI K adj g l i = false := by
            cases e : RI K adj g l i with
            | false => rfl
            | true => exact absurd (by rw [RI_step e, e]) hi2
          have ht : RI K adj g (l + 1) i = true := by
            cases e : RI K adj g (l + 1) i with
            | true => rfl
            | false => exact absurd (by rw [e, hf]) hi2
          have := fb_ct_strict (p := fun i => RI K adj g l i) (q := fun i => RI K adj g (l + 1) i) hi1 hf ht (fun k _ hk => RI_step hk)
          omega
  rcases key l with ⟨k, k1, k2⟩ | h
  · intro i hi d
    have a := RI_shut k2 (l - k) i hi
    have b := RI_shut k2 (l - k + d) i hi
    rw [show k + (l - k) = l by omega] at a
    rw [show k + (l - k + d) = l + d by omega] at b
    rw [a, b]
  · have := fb_ct_le (fun i => RI K adj g l i) K
    omega
section LAY
variable {σ0 : St} {P G : List Nat} {m c g l : Nat}
theorem lu_bit (h : GX G m c) {i b : Nat} (hi : i < G.length) (hb : (G.getD i 0).testBit b = true) : (lu G).testBit b = true := by
  have hz := h.2.1 _ (getD_mem hi)
  have b14 : b < 14 := by
    apply Classical.byContradiction
    intro z
    have p14 : 2 ^ m ≤ 2 ^ b := Nat.pow_le_pow_right (by decide) (by have := h.2.2.1; omega)
    rw [Nat.testBit_lt_two_pow (by omega)] at hb
    cases hb
  unfold lu
  rw [mk_bit, decide_eq_true b14, Bool.true_and, List.any_eq_true]
  exact ⟨_, getD_mem hi, hb⟩
theorem spread2_ok (hs : SX σ0 P G m c) {N : Nat} (hN : 20000 ≤ N) {j : Nat} (hj : j < G.length) (hjr : RI G.length (adjG G) g l j = true) : ∀ (d y : Nat), y < 2 ^ 14 → (bl y).length ≤ d → (∀ a, y.testBit a = true → (G.getD j 0).testBit a = true) → ∀ fuel, d < fuel → ∀ (σ : St) (R : Nat → Bool), RS σ0 σ P G g l R → R26 σ G.length R → ∃ σ' R', Rt_spread_2 N fuel (nI (G.getD j 0)) (nI y) σ = some σ' ∧ RS σ0 σ' P G g l R' ∧ R26 σ' G.length R' ∧ (∀ i, R i = true → R' i = true) ∧ ∀ a, y.testBit a = true → ∀ b, b < 14 → (G.getD j 0).testBit b = false → ∀ i, i < G.length → G.getD i 0 = (G.getD j 0 ^^^ 2 ^ a) ||| 2 ^ b → RI G.length (adjG G) g l i = true ∨ R' i = true := by
  have s1 := hs.1
  have hz := s1.2.1 _ (getD_mem hj)
  have p14 : 2 ^ m ≤ 2 ^ 14 := Nat.pow_le_pow_right (by decide) s1.2.2.1
  intro d
  induction d with
  | zero =>
    intro y hy hl hyb fuel hf σ R hr h26
    obtain ⟨fuel, rfl⟩ : ∃ z, fuel = z + 1 := ⟨fuel - 1, by omega⟩
    have y0 : y = 0 := by
      apply Classical.byContradiction
      intro z
      obtain ⟨l', -, -, -, e, -, -⟩ := bl_low (show 0 < y by omega) hy
      rw [e] at hl
      simp at hl
    subst y0
    rw [Rt_spread_2_s, if_pos (by decide)]
    exact ⟨σ, R, rfl, hr, h26, fun _ h => h, fun b hb => by simp at hb⟩
  | succ d ih =>
    intro y hy hl hyb fuel hf σ R hr h26
    obtain ⟨fuel, rfl⟩ : ∃ z, fuel = z + 1 := ⟨fuel - 1, by omega⟩
    by_cases y0 : y = 0
    · subst y0
      rw [Rt_spread_2_s, if_pos (by decide)]
      exact ⟨σ, R, rfl, hr, h26, fun _ h => h, fun b hb => by simp at hb⟩
    · obtain ⟨a, b1, b2, b3, b4, b5, b6⟩ := bl_low (show 0 < y by omega) hy
      have hab := hyb a b6
      have in14 : ∀ {y e : Nat}, y < 2 ^ 14 → y.testBit e = true → e < 14 := fun {y e} hy he => by
        apply Classical.byContradiction
        intro z
        rw [Nat.testBit_lt_two_pow (Nat.lt_of_lt_of_le hy (Nat.pow_le_pow_right (by decide) (by omega)))] at he
        cases he
      have rest : ∀ e, y.testBit e = true → e = a ∨ (y - 2 ^ a).testBit e = true := fun e he => by
        have : e ∈ bl y := bl_mem.mpr ⟨in14 hy he, he⟩
        rw [b4] at this
        rcases List.mem_cons.mp this with z | z
        · exact Or.inl z
        · exact Or.inr (bl_mem.mp z).2
      have back : ∀ e, (y - 2 ^ a).testBit e = true → y.testBit e = true := fun e he => by
        have : e ∈ bl y := by rw [b4]; exact List.mem_cons_of_mem _ (bl_mem.mpr ⟨in14 b5 he, he⟩)
        exact (bl_mem.mp this).2
      have hl' : (bl (y - 2 ^ a)).length ≤ d := by rw [b4, List.length_cons] at hl; omega
      have hlu : lu G < 2 ^ 14 := mk_lt _ 14
      rw [Rt_spread_2_s, if_neg (fun z => y0 ((nI_z (by omega)).mp z)), b2, fb_xorI, hr.2.2.2.1, and_not_nI hlu]
      obtain ⟨σ1, R1, q1, q2, q3, q4, q5⟩ := spread23_ok hs (N := N) hj hjr b1 hab (Rt_spread_68 N (Rt_spread_2 N fuel)) (nI y) 14 (mk 14 (fun e => (lu G).testBit e && !(G.getD j 0).testBit e)) (mk_lt _ 14) (bl_len _) (fun b hb => by
        rw [mk_bit, Bool.and_eq_true, Bool.and_eq_true, Bool.not_eq_true'] at hb
        exact hb.2.2) N (by omega) σ R hr h26
      rw [q1]
      unfold Rt_spread_68
      rw [b3]
      obtain ⟨σ', R', w1, w2, w3, w4, w5⟩ := ih (y - 2 ^ a) b5 hl' (fun e he => hyb e (back e he)) fuel (by omega) σ1 R1 q2 q3
      refine ⟨σ', R', w1, w2, w3, fun t ht => w4 t (q4 t ht), fun e he b hb hbf t ht et => ?_⟩
      rcases rest e he with z | z
      · subst z
        have hbl : (lu G).testBit b = true := lu_bit s1 ht (by rw [et, Nat.testBit_or, Nat.testBit_two_pow_self, Bool.or_true])
        rcases q5 b (by rw [mk_bit, decide_eq_true hb, hbl, hbf]; rfl) t ht et with z | z
        · exact Or.inl z
        · exact Or.inr (w4 t z)
      · exact w5 e z b hb hbf t ht et
theorem spread_ok (hs : SX σ0 P G m c) {N : Nat} (hN : 20000 ≤ N) {j : Nat} (hj : j < G.length) (hjr : RI G.length (adjG G) g l j = true) {σ : St} {R : Nat → Bool} (hr : RS σ0 σ P G g l R) (h26 : R26 σ G.length R) : ∃ σ' R', Rt_spread N (nI (G.getD j 0)) σ = some σ' ∧ RS σ0 σ' P G g l R' ∧ R26 σ' G.length R' ∧ (∀ i, R i = true → R' i = true) ∧ ∀ i, i < G.length → adjG G j i = true → RI G.length (adjG G) g l i = true ∨ R' i = true := by
  have s1 := hs.1
  have hz := s1.2.1 _ (getD_mem hj)
  have p14 : 2 ^ m ≤ 2 ^ 14 := Nat.pow_le_pow_right (by decide) s1.2.2.1
  obtain ⟨σ', R', w1, w2, w3, w4, w5⟩ := spread2_ok hs hN hj hjr 14 (G.getD j 0) (by omega) (bl_len _) (fun _ h => h) N (by omega) σ R hr h26
  refine ⟨σ', R', w1, w2, w3, w4, fun i hi ha => ?_⟩
  have hzi := s1.2.1 _ (getD_mem hi)
  obtain ⟨a, b, ha, hb, ba, bb, ej⟩ := swap_of (show G.getD j 0 < 2 ^ 14 by omega) (show G.getD i 0 < 2 ^ 14 by omega) (by rw [hz.2, hzi.2]) (of_decide_eq_true ha)
  exact w5 a ba b hb bb i hi ej
theorem layer7_ok (hs : SX σ0 P G m c) {N : Nat} (hN : 20000 ≤ N) (hl : l ≤ 1280) : ∀ (d j : Nat), j + d = G.length → ∀ fuel, d < fuel → ∀ (σ : St) (R : Nat → Bool), RS σ0 σ P G g l R → R26 σ G.length R → (∀ j', j' < j → RI G.length (adjG G) g l j' = true → ds G.length (adjG G) g l j' = l → ∀ i, i < G.length → adjG G j' i = true → RI G.length (adjG G) g l i = true ∨ R i = true) → ∃ σ' R', Rt_spreadLayer_7 N fuel (nI j) σ = some σ' ∧ RS σ0 σ' P G g l R' ∧ R26 σ' G.length R' ∧ (∀ j', j' < G.length → RI G.length (adjG G) g l j' = true → ds G.length (adjG G) g l j' = l → ∀ i, i < G.length → adjG G j' i = true → RI G.length (adjG G) g l i = true ∨ R' i = true) := by
  have s1 := hs.1
  have hK := s1.2.2.2
  intro d
  induction d with
  | zero =>
    intro j hj fuel hf σ R hr h26 hS
    obtain ⟨fuel, rfl⟩ : ∃ z, fuel = z + 1 := ⟨fuel - 1, by omega⟩
    rw [Rt_spreadLayer_7_s, hr.1.1 18 (by decide), hs.2.2.2.1, if_pos (nI_le (by omega) (by omega))]
    exact ⟨σ, R, rfl, hr, h26, fun j' hj' => hS j' (by omega)⟩
  | succ d ih =>
    intro j hj fuel hf σ R hr h26 hS
    obtain ⟨fuel, rfl⟩ : ∃ z, fuel = z + 1 := ⟨fuel - 1, by omega⟩
    have hjK : j < G.length := by omega
    have pj := hs.2.1 j hjK
    have dl := ds_le (K := G.length) (adj := adjG G) (g := g) l j
    rw [Rt_spreadLayer_7_s, hr.1.1 18 (by decide), hs.2.2.2.1, if_neg (nI_ge (by omega) (by omega)), grd_t (inb_nI (by omega) (by decide)), nI_clamp (show j < 2 ^ 31 by omega), hr.1.2.1 13 (by decide), (hs.2.2.2.2.1 j hjK).1, grd_t (inb_nI pj (by decide)), nI_clamp (show P.getD j 0 < 2 ^ 31 by omega), hr.2.2.2.2.1 j hjK, hr.2.2.1, nI_1]
    by_cases z : RI G.length (adjG G) g l j = true ∧ ds G.length (adjG G) g l j = l
    · rw [if_pos z.1, z.2, if_pos rfl, grd_t (inb_nI (by omega) (by decide)), grd_t (inb_nI pj (by decide)), hr.1.2.1 6 (by decide), (hs.2.2.2.2.1 j hjK).2]
      obtain ⟨σ1, R1, q1, q2, q3, q4, q5⟩ := spread_ok hs hN hjK z.1 hr h26
      rw [bnd_t q1]
      refine ih (j + 1) (by omega) fuel (by omega) σ1 R1 q2 q3 (fun j' hj' h1 h2 i hi ha => ?_)
      by_cases e : j' = j
      · rw [e] at ha; exact q5 i hi ha
      · rcases hS j' (by omega) h1 h2 i hi ha with w | w
        · exact Or.inl w
        · exact Or.inr (q4 i w)
    · have hne : ¬ (if RI G.length (adjG G) g l j = true then nI (ds G.length (adjG G) g l j) else if R j = true then nI (l + 1) else -1) = nI l := by
        by_cases y : RI G.length (adjG G) g l j = true
        · rw [if_pos y]
          exact fun e => z ⟨y, (nI_eq (by omega) (by omega)).mp e⟩
        · rw [if_neg y]
          by_cases w : R j = true
          · rw [if_pos w]
            exact fun e => by have := (nI_eq (by omega) (by omega)).mp e; omega
          · rw [if_neg w]
            exact fun e => nI_m1 (by omega) e.symm
      rw [if_neg hne]
      refine ih (j + 1) (by omega) fuel (by omega) σ R hr h26 (fun j' hj' h1 h2 i hi ha => ?_)
      by_cases e : j' = j
      · rw [e] at h1 h2; exact absurd ⟨h1, h2⟩ z
      · exact hS j' (by omega) h1 h2 i hi ha
/-- the route between two calls -/
def XL (σ0 σ : St) (P G : List Nat) (g l : Nat) : Prop := l ≤ 1280 ∧ RS σ0 σ P G g l (fun _ => false) ∧ ((σ.1 26 = 0 ∧ ∀ i, i < G.length → RI G.length (adjG G) g (l + 1) i = RI G.length (adjG G) g l i) ∨ σ.1 26 = 1)
theorem layer_ok (hs : SX σ0 P G m c) {N : Nat} (hN : 20000 ≤ N) {σ : St} (hx : XL σ0 σ P G g l) (hl : l < 1280) : ∃ σ', Rt_spreadLayer N σ = some σ' ∧ σ'.1 25 = nI l ∧ XL σ0 (si σ' 25 (nI (l + 1))) P G g (l + 1) := by
  obtain ⟨x1, x2, x3⟩ := hx
  obtain ⟨r1, r2, r3, r4, r5, r6, r7⟩ := x2
  have hr0 : RS σ0 (si σ 26 0) P G g l (fun _ => false) := ⟨r1.si (by decide) _, by rw [si_ne _ _ (by decide)]; exact r2, by rw [si_ne _ _ (by decide)]; exact r3, by rw [si_ne _ _ (by decide)]; exact r4, r5, WB_same r6 rfl, r7⟩
  obtain ⟨σ', R, q1, q2, q3, q4⟩ := layer7_ok hs hN x1 G.length 0 (by omega) N (by have := hs.1.2.2.2; omega) (si σ 26 0) (fun _ => false) hr0 (Or.inl ⟨si_same _ _ _, fun _ _ => rfl⟩) (fun j' hj' => by omega)
  refine ⟨σ', ?_, q2.2.2.1, by omega, ?_, ?_⟩
  · unfold Rt_spreadLayer lt
    exact q1
  · obtain ⟨t1, t2, t3, t4, t5, t6, t7⟩ := q2
    have key : ∀ i, i < G.length → RI G.length (adjG G) g (l + 1) i = (RI G.length (adjG G) g l i || R i) := fun i hi => by
      rw [Bool.eq_iff_iff, Bool.or_eq_true]
      constructor
      · intro h
        rcases RI_next.mp h with z | ⟨j, hj, z1, z2⟩
        · exact Or.inl z
        · have dl := ds_le (K := G.length) (adj := adjG G) (g := g) l j
          by_cases e : ds G.length (adjG G) g l j = l
          · exact q4 j hj z1 e i hi z2
          · left
            have hd := (ds_is z1).1
            exact RI_le (show ds G.length (adjG G) g l j + 1 ≤ l by omega) (RI_next.mpr (Or.inr ⟨j, hj, hd, z2⟩))
      · rintro (h | h)
        · exact RI_step h
        · exact t7 i hi h
    refine ⟨t1.si (by decide) _, by rw [si_ne _ _ (by decide)]; exact t2, si_same _ _ _, by rw [si_ne _ _ (by decide)]; exact t4, fun i hi => ?_, ?_, fun i _ h => by cases h⟩
    · show σ'.2.1 17 _ = _
      rw [t5 i hi, key i hi]
      cases e1 : RI G.length (adjG G) g l i with
      | true => rw [if_pos rfl, Bool.true_or, if_pos rfl, ds_keep e1]
      | false =>
        rw [if_neg (by decide), Bool.false_or]
        by_cases e2 : R i = true
        · rw [if_pos e2, if_pos e2, ds_full e1]
        · rw [if_neg e2, if_neg e2]
          exact (if_neg (fun h => Bool.noConfusion (show false = true from h))).symm
    · refine WB_same (WB_cong t6 (fun z => ?_)) rfl
      rw [Bool.eq_iff_iff, has_ri hs.1, has_ri hs.1]
      constructor
      · rintro ⟨i, i1, i2, i3, i4⟩
        exact ⟨i, i1, i2, by rw [key i i1, i3, i4]; rfl, rfl⟩
      · rintro ⟨i, i1, i2, i3, i4⟩
        rw [key i i1, Bool.or_eq_false_iff] at i3
        exact ⟨i, i1, i2, i3.1, i3.2⟩
  · have e26 : (si σ' 25 (nI (l + 1))).1 26 = σ'.1 26 := si_ne _ _ (by decide)
    rw [e26]
    rcases q3 with ⟨z1, z2⟩ | z
    · left
      refine ⟨z1, ?_⟩
      have sh : ∀ i, i < G.length → RI G.length (adjG G) g (l + 1) i = RI G.length (adjG G) g l i := fun i hi => by
        cases e : RI G.length (adjG G) g l i with
        | true => exact RI_step e
        | false =>
          cases e2 : RI G.length (adjG G) g (l + 1) i with
          | false => rfl
          | true =>
            rcases RI_next.mp e2 with z | ⟨j, hj, y1, y2⟩
            · rw [e] at z; cases z
            · have dl := ds_le (K := G.length) (adj := adjG G) (g := g) l j
              by_cases e3 : ds G.length (adjG G) g l j = l
              · rcases q4 j hj y1 e3 i hi y2 with w | w
                · rw [e] at w; cases w
                · rw [z2 i hi] at w; cases w
              · have hd := (ds_is y1).1
                have := RI_le (show ds G.length (adjG G) g l j + 1 ≤ l by omega) (RI_next.mpr (Or.inr ⟨j, hj, hd, y2⟩))
                rw [e] at this; cases this
      intro i hi
      rw [RI_shut sh 2 i hi, RI_shut sh 1 i hi]
    · exact Or.inr z
end LAY
