/-! the class's ways from a good tree: where it stands, how far, the next -/
section RTE
variable {σ0 : St} {P G : List Nat} {m c g l : Nat}
def luj (G : List Nat) (j : Nat) : Nat := mk 14 (fun e => (List.range j).any (fun t => (G.getD t 0).testBit e))
theorem luj_all (G : List Nat) : luj G G.length = lu G := by
  unfold luj lu
  congr 1
  funext e
  conv => rhs; rw [← list_range G]
  rw [List.any_map]
  rfl
theorem luj_next {j : Nat} (hz : G.getD j 0 < 2 ^ 14) : luj G j ||| G.getD j 0 = luj G (j + 1) := by
  apply Nat.eq_of_testBit_eq
  intro e
  unfold luj
  rw [Nat.testBit_or, mk_bit, mk_bit, List.range_succ, List.any_append]
  by_cases z : e < 14
  · simp [z]
  · have : (G.getD j 0).testBit e = false := Nat.testBit_lt_two_pow (Nat.lt_of_lt_of_le hz (Nat.pow_le_pow_right (by decide) (by omega)))
    simp [z]
    simpa using this
theorem stand19_ok (hs : SX σ0 P G m c) (N : Nat) (k : Int32 → St → Option St) (hg : g < G.length) : ∀ (d j : Nat), j + d = G.length → ∀ fuel, d < fuel → ∀ σ : St, AgR σ0 σ → σ.1 23 = nI (P.getD g 0) → σ.1 24 = nI (luj G j) → (∀ t, t < j → σ.2.1 17 (P.getD t 0) = -1) → WB σ 1 (fun z => (List.range j).any (fun t => decide (G.getD t 0 = z))) → ∃ σ', Rt_standAt_19 N k fuel (nI (P.getD g 0)) (nI j) σ = k (nI (P.getD g 0)) σ' ∧ AgR σ0 σ' ∧ σ'.1 23 = nI (P.getD g 0) ∧ σ'.1 24 = nI (lu G) ∧ (∀ t, t < G.length → σ'.2.1 17 (P.getD t 0) = -1) ∧ WB σ' 1 (fun z => (List.range G.length).any (fun t => decide (G.getD t 0 = z))) := by
  obtain ⟨s1, s2, s3, s4, s5, s6⟩ := hs
  have hK := s1.2.2.2
  intro d
  induction d with
  | zero =>
    intro j hj fuel hf σ h1 h2 h3 h4 h5
    obtain ⟨fuel, rfl⟩ : ∃ z, fuel = z + 1 := ⟨fuel - 1, by omega⟩
    have ej : j = G.length := by omega
    subst ej
    rw [Rt_standAt_19_s, h1.1 18 (by decide), s4, if_pos (nI_le (by omega) (by omega))]
    exact ⟨σ, rfl, h1, h2, by rw [h3, luj_all], h4, h5⟩
  | succ d ih =>
    intro j hj fuel hf σ h1 h2 h3 h4 h5
    obtain ⟨fuel, rfl⟩ : ∃ z, fuel = z + 1 := ⟨fuel - 1, by omega⟩
    have hjK : j < G.length := by omega
    have pj := s2 j hjK
    have hz := s1.2.1 _ (getD_mem hjK)
    have p14 : 2 ^ m ≤ 2 ^ 14 := Nat.pow_le_pow_right (by decide) s1.2.2.1
    have z14 : G.getD j 0 < 2 ^ 14 := by omega
    rw [Rt_standAt_19_s, h1.1 18 (by decide), s4, if_neg (nI_ge (by omega) (by omega)), grd_t (inb_nI (by omega) (by decide)), nI_clamp (show j < 2 ^ 31 by omega), h1.2.1 13 (by decide), (s5 j hjK).1]
    unfold lt
    dsimp only
    rw [grd_t (inb_nI pj (by decide)), grd_t (inb_nI pj (by decide)), grd_t (inb_nI pj (by decide)), nI_clamp (show P.getD j 0 < 2 ^ 31 by omega)]
    have e6 : (sa σ 17 (P.getD j 0) (-1)).2.1 6 (P.getD j 0) = nI (G.getD j 0) := by rw [sa_ne _ _ _ (by decide), h1.2.1 6 (by decide)]; exact (s5 j hjK).2
    have e24 : (sa σ 17 (P.getD j 0) (-1)).1 24 = nI (luj G j) := h3
    rw [e6, e24, fa_or, luj_next z14]
    have e6' : (si (sa σ 17 (P.getD j 0) (-1)) 24 (nI (luj G (j + 1)))).2.1 6 (P.getD j 0) = nI (G.getD j 0) := e6
    rw [e6', bnd_t (Un_put_ok _ N z14), nI_1]
    refine ih (j + 1) (by omega) fuel (by omega) _ (((h1.sa _ _).si (by decide) _).sj _ _) ?_ ?_ (fun t ht => ?_) ?_
    · show (si (sa σ 17 (P.getD j 0) (-1)) 24 (nI (luj G (j + 1)))).1 23 = _
      rw [si_ne _ _ (by decide)]; exact h2
    · show (si (sa σ 17 (P.getD j 0) (-1)) 24 (nI (luj G (j + 1)))).1 24 = _
      exact si_same _ _ _
    · show (sa σ 17 (P.getD j 0) (-1)).2.1 17 (P.getD t 0) = -1
      rw [sa_same]
      by_cases z : t = j
      · rw [z, upd_s]
      · rw [upd_n _ _ (fun e => z (s3 t j (by omega) hjK e))]
        exact h4 t (by omega)
    · have hw := WB_same (σ' := si (sa σ 17 (P.getD j 0) (-1)) 24 (nI (luj G (j + 1)))) h5 rfl
      refine WB_cong (WB_put hw z14) (fun z => ?_)
      rw [List.range_succ, List.any_append]
      congr 1
      simp only [List.any_cons, List.any_nil, Bool.or_false]
      exact decide_eq_decide.mpr ⟨fun e => e.symm, fun e => e.symm⟩
theorem RI_zero {K : Nat} {adj : Nat → Nat → Bool} {g i : Nat} : RI K adj g 0 i = decide (i = g) := rfl
theorem stand_ok (hs : SX σ0 P G m c) {N : Nat} (hN : 20000 ≤ N) (hg : g < G.length) {σ : St} (h : AgR σ0 σ) : ∃ σ', Rt_standAt N (nI (P.getD g 0)) σ = some σ' ∧ XL σ0 σ' P G g 0 := by
  have hK := hs.1.2.2.2
  have hz := hs.1.2.1 _ (getD_mem hg)
  have p14 : 2 ^ m ≤ 2 ^ 14 := Nat.pow_le_pow_right (by decide) hs.1.2.2.1
  have z14 : G.getD g 0 < 2 ^ 14 := by omega
  have pg := hs.2.1 g hg
  have hA : AgR σ0 (fillJ (si (si σ 23 (nI (P.getD g 0))) 24 0) 1 256 0) := by
    have := (h.si (k := 23) (by decide) (nI (P.getD g 0))).si (k := 24) (by decide) 0
    exact ⟨this.1, this.2.1, fun k hk => (up_n _ _ hk).trans (this.2.2 k hk)⟩
  obtain ⟨σ1, q1, q2, q3, q4, q5, q6⟩ := stand19_ok hs N (Rt_standAt_87 N) hg G.length 0 (by omega) N (by omega) (fillJ (si (si σ 23 (nI (P.getD g 0))) 24 0) 1 256 0) hA (by
      show (si (si σ 23 (nI (P.getD g 0))) 24 0).1 23 = _
      rw [si_ne _ _ (by decide), si_same]) (by
      show (si (si σ 23 (nI (P.getD g 0))) 24 0).1 24 = _
      rw [si_same]
      have : luj G 0 = 0 := by
        apply Nat.eq_of_testBit_eq
        intro i
        unfold luj
        rw [mk_bit]
        simp
      rw [this]
      rfl) (fun t ht => by omega) (WB_cong (WB_fill _ 1) (fun z => by simp))
  unfold Rt_standAt Un_clear lt
  dsimp only
  rw [show (0 : Int32) = nI 0 from rfl] at *
  rw [q1]
  unfold Rt_standAt_87 lt
  dsimp only
  rw [grd_t (inb_nI pg (by decide)), grd_t (inb_nI pg (by decide)), nI_clamp (show P.getD g 0 < 2 ^ 31 by omega)]
  have e6 : (sa σ1 17 (P.getD g 0) (nI 0)).2.1 6 (P.getD g 0) = nI (G.getD g 0) := by rw [sa_ne _ _ _ (by decide), q2.2.1 6 (by decide)]; exact (hs.2.2.2.2.1 g hg).2
  have e6' : (sa σ1 17 (P.getD g 0) 0).2.1 6 (P.getD g 0) = nI (G.getD g 0) := e6
  first
    | rw [e6, bnd_t (Un_drop_ok _ N z14)]
    | rw [e6', bnd_t (Un_drop_ok _ N z14)]
  refine ⟨_, rfl, by omega, ⟨(((q2.sa _ _).sj _ _).si (by decide) _).si (by decide) _, ?_, ?_, ?_, fun t ht => ?_, ?_, fun i _ h => by cases h⟩, Or.inr (si_same _ _ _)⟩
  · rw [si_ne _ _ (by decide), si_ne _ _ (by decide)]; exact q3
  · rw [si_ne _ _ (by decide), si_same]; rfl
  · rw [si_ne _ _ (by decide), si_ne _ _ (by decide)]; exact q4
  · show (sa σ1 17 (P.getD g 0) (nI 0)).2.1 17 (P.getD t 0) = _
    rw [sa_same, RI_zero]
    by_cases z : t = g
    · rw [z, upd_s, if_pos (by simp)]
      rfl
    · rw [upd_n _ _ (fun e => z (hs.2.2.1 t g ht hg e)), q5 t ht, if_neg (by simp [z])]
      exact (if_neg (fun h => Bool.noConfusion (show false = true from h))).symm
  · have hw := WB_same (σ' := sa σ1 17 (P.getD g 0) (nI 0)) q6 rfl
    refine WB_same (WB_cong (WB_drop hw z14) (fun z => ?_)) rfl
    rw [Bool.eq_iff_iff, Bool.and_eq_true, has_ri hs.1, List.any_eq_true, Bool.not_eq_true', decide_eq_false_iff_not]
    constructor
    · rintro ⟨⟨t, t1, t2⟩, hne⟩
      rw [decide_eq_true_iff] at t2
      refine ⟨t, List.mem_range.mp t1, t2, ?_, rfl⟩
      rw [RI_zero, decide_eq_false_iff_not]
      intro e
      rw [← t2, e] at hne
      exact hne rfl
    · rintro ⟨t, t1, t2, t3, -⟩
      rw [RI_zero, decide_eq_false_iff_not] at t3
      exact ⟨⟨t, List.mem_range.mpr t1, decide_eq_true t2⟩, fun e => t3 (srt_inj hs.1.1 t1 hg (by rw [t2, e]))⟩
theorem XL_far {σ : St} (hx : XL σ0 σ P G g l) {i : Nat} (hi : i < G.length) : σ.2.1 17 (P.getD i 0) = if RI G.length (adjG G) g l i = true then nI (ds G.length (adjG G) g l i) else -1 := hx.2.1.2.2.2.2.1 i hi
theorem length13_ok (hs : SX σ0 P G m c) {N : Nat} (hN : 20000 ≤ N) (hg : g < G.length) {i : Nat} (hi : i < G.length) : ∀ (d l : Nat), l + d = 1280 → ∀ fuel, d < fuel → ∀ σ : St, XL σ0 σ P G g l → ∃ r σ' l', Rt_length_13 N (Rt_length_57 N) fuel (nI (P.getD i 0)) σ = some (r, σ') ∧ XL σ0 σ' P G g l' ∧ ((RI G.length (adjG G) g l' i = true ∧ r = nI (ds G.length (adjG G) g l' i)) ∨ (r = -1 ∧ ∀ k, RI G.length (adjG G) g k i = false)) := by
  have pi := hs.2.1 i hi
  have hK := hs.1.2.2.2
  have stop : ∀ (σ : St) (l : Nat), XL σ0 σ P G g l → (RI G.length (adjG G) g l i = true ∨ ∀ i, i < G.length → ∀ d, RI G.length (adjG G) g (l + d) i = RI G.length (adjG G) g l i) → ∃ r σ' l', Rt_length_57 N (nI (P.getD i 0)) σ = some (r, σ') ∧ XL σ0 σ' P G g l' ∧ ((RI G.length (adjG G) g l' i = true ∧ r = nI (ds G.length (adjG G) g l' i)) ∨ (r = -1 ∧ ∀ k, RI G.length (adjG G) g k i = false)) := fun σ l hx hh => by
    unfold Rt_length_57
    rw [grd_t (inb_nI pi (by decide)), nI_clamp (by omega), XL_far hx hi]
    cases e : RI G.length (adjG G) g l i with
    | true => exact ⟨_, σ, l, rfl, hx, Or.inl ⟨e, by rw [if_pos rfl]⟩⟩
    | false =>
      refine ⟨_, σ, l, rfl, hx, Or.inr ⟨by rw [if_neg (by decide)], fun k => ?_⟩⟩
      rcases hh with z | z
      · rw [e] at z; cases z
      · by_cases y : k ≤ l
        · exact RI_not y e
        · have := z i hi (k - l)
          rw [show l + (k - l) = k by omega, e] at this
          exact this
  intro d
  induction d with
  | zero =>
    intro l hl fuel hf σ hx
    obtain ⟨fuel, rfl⟩ : ∃ z, fuel = z + 1 := ⟨fuel - 1, by omega⟩
    rw [Rt_length_13_s, grd_t (inb_nI pi (by decide)), hx.2.1.2.2.1, if_pos (show (1280 : Int32) ≤ nI l by rw [show l = 1280 by omega]; decide), ite_self, ite_self]
    exact stop σ l hx (Or.inr (fun i hi d => RI_full hg (by omega) i hi d))
  | succ d ih =>
    intro l hl fuel hf σ hx
    obtain ⟨fuel, rfl⟩ : ∃ z, fuel = z + 1 := ⟨fuel - 1, by omega⟩
    have dl := ds_le (K := G.length) (adj := adjG G) (g := g) l i
    rw [Rt_length_13_s, grd_t (inb_nI pi (by decide)), nI_clamp (by omega), XL_far hx hi]
    cases e : RI G.length (adjG G) g l i with
    | true =>
      rw [if_pos rfl, if_neg (nI_m1 (by omega))]
      exact stop σ l hx (Or.inl e)
    | false =>
      rw [if_neg (show ¬ false = true by decide), if_pos rfl]
      rcases hx.2.2 with ⟨z1, z2⟩ | z1
      · rw [if_pos z1]
        exact stop σ l hx (Or.inr (fun i hi d => RI_shut z2 d i hi))
      · rw [z1, if_neg (show ¬ (1 : Int32) = 0 by decide), hx.2.1.2.2.1, if_neg (show ¬ (1280 : Int32) ≤ nI l from nI_ge (a := l) (b := 1280) (by omega) (by omega))]
        obtain ⟨σ1, q1, q2, q3⟩ := layer_ok hs hN hx (by omega)
        rw [bnd_t q1]
        unfold lt
        rw [q2, nI_1]
        exact ih (l + 1) (by omega) fuel (by omega) _ q3
theorem XL_XRt {σ : St} (hg : g < G.length) (hx : XL σ0 σ P G g l) : XRt σ P G := by
  obtain ⟨x1, ⟨r1, r2, r3, r4, r5, r6, r7⟩, x3⟩ := hx
  refine Or.inr ⟨g, l, hg, x1, r2, r3, r4, r5, ?_, x3⟩
  refine WB_cong r6 (fun z => ?_)
  simp only [Bool.or_false]
theorem XRt_XL {σ : St} (hx : XRt σ P G) : σ.1 23 = -1 ∨ ∃ g l, g < G.length ∧ XL σ σ P G g l := by
  rcases hx with z | ⟨g, l, h1, h2, h3, h4, h5, h6, h7, h8⟩
  · exact Or.inl z
  · right
    refine ⟨g, l, h1, h2, ⟨⟨fun _ _ => rfl, fun _ _ => rfl, fun _ _ => rfl⟩, h3, h4, h5, h6, ?_, fun i _ h => by cases h⟩, h8⟩
    refine WB_cong h7 (fun z => ?_)
    simp only [Bool.or_false]
theorem length_ok (hs : SX σ0 P G m c) (hx : XRt σ0 P G) {N : Nat} (hN : 20000 ≤ N) (hg : g < G.length) {i : Nat} (hi : i < G.length) : ∃ r σ' l', Rt_length N (nI (P.getD i 0)) (nI (P.getD g 0)) σ0 = some (r, σ') ∧ XL σ0 σ' P G g l' ∧ ((RI G.length (adjG G) g l' i = true ∧ r = nI (ds G.length (adjG G) g l' i)) ∨ (r = -1 ∧ ∀ k, RI G.length (adjG G) g k i = false)) := by
  have pg := hs.2.1 g hg
  unfold Rt_length
  by_cases e : σ0.1 23 = nI (P.getD g 0)
  · rw [if_pos e]
    rcases XRt_XL hx with z | ⟨g', l, z1, z2⟩
    · rw [e] at z; exact absurd z (nI_m1 (by omega))
    · have pg' := hs.2.1 g' z1
      have : g' = g := hs.2.2.1 g' g z1 hg ((nI_eq (by omega) (by omega)).mp (by rw [← z2.2.1.2.1, e]))
      subst this
      exact length13_ok hs hN hg hi (1280 - l) l (by have := z2.1; omega) N (by omega) σ0 z2
  · rw [if_neg e]
    obtain ⟨σ1, q1, q2⟩ := stand_ok hs hN hg (σ := σ0) ⟨fun _ _ => rfl, fun _ _ => rfl, fun _ _ => rfl⟩
    rw [bnd_t q1]
    exact length13_ok hs hN hg hi 1280 0 (by omega) N (by omega) σ1 q2
end RTE
