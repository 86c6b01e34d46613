/-! calls about one set of lines -/
section TRE
variable {fr to pr dm co dg cu : Nat → Nat} {n m root dep lod rf rt wy : Nat}
theorem catch_x {σ : St} (ha : WAll fr to pr dm co dg cu n m root dep lod rf rt wy) (hx : IvX fr to pr dm co dg cu n m root dep lod rf rt wy σ) {N : Nat} (hN : 20 ≤ N) : ∃ σ', TL_catchUp N σ = some σ' ∧ IvX fr to pr dm co dg cu n m root dep lod rf rt wy σ' ∧ TLR σ' (tl fr to m (fun v => v) n 0) := by
  obtain ⟨x1, x2, x3, x4, x5⟩ := hx
  have go : ∀ L, L ≤ m → σ.1 16 = nI L → TLR σ (tl fr to L (fun v => v) n 0) → ∀ K, K ≤ (tl fr to L (fun v => v) n 0).length → σ.1 17 = nI K → MSR σ fr to pr dm m root (tl fr to L (fun v => v) n 0) K → (σ.1 20 = 1 → XDone σ fr to pr dm co dg cu n m root dep lod rf rt wy) → ∃ σ', TL_catchUp N σ = some σ' ∧ IvX fr to pr dm co dg cu n m root dep lod rf rt wy σ' ∧ TLR σ' (tl fr to m (fun v => v) n 0) := by
    intro L hL h16 hT K hK h17 hM hdone
    obtain ⟨σ1, a1, a2, a3, i1, a5, a6⟩ := TL_catchUp_ok ha.1 hN x1 hL h16 hT
    have hx1 : NX σ1 n m root fr to pr dm := by
      obtain ⟨x0, x1, x2, xe, xv⟩ := x1
      refine ⟨by rw [i1 0 (by decide) (by decide)]; exact x0, by rw [i1 1 (by decide) (by decide)]; exact x1, by rw [i1 2 (by decide) (by decide)]; exact x2, ?_, ?_⟩
      · rw [a5 2 (by decide) (by decide) (by decide), a5 3 (by decide) (by decide) (by decide), a5 4 (by decide) (by decide) (by decide)]; exact xe
      · rw [a5 0 (by decide) (by decide) (by decide), a5 1 (by decide) (by decide) (by decide)]; exact xv
    have hl1 : LX σ1 m co dg dep lod rf rt wy := by
      obtain ⟨l1, l2, l3, l4, l5, l6, l7, l8⟩ := x2
      exact ⟨by rw [i1 3 (by decide) (by decide)]; exact l1, by rw [i1 5 (by decide) (by decide)]; exact l2, by rw [i1 6 (by decide) (by decide)]; exact l3, by rw [i1 7 (by decide) (by decide)]; exact l4, by rw [i1 8 (by decide) (by decide)]; exact l5, by rw [i1 9 (by decide) (by decide)]; exact l6, by rw [i1 10 (by decide) (by decide)]; exact l7, by rw [a5 5 (by decide) (by decide) (by decide)]; exact l8⟩
    obtain ⟨D, hD⟩ := tl_pre fr to (fun v => v) n 0 hL
    have hM1 : MSR σ1 fr to pr dm m root (tl fr to m (fun v => v) n 0) K := by
      intro i hi
      rw [a5 7 (by decide) (by decide) (by decide), a5 8 (by decide) (by decide) (by decide), a5 9 (by decide) (by decide) (by decide), a5 10 (by decide) (by decide) (by decide)]
      have : (tl fr to m (fun v => v) n 0).getD i 0 = (tl fr to L (fun v => v) n 0).getD i 0 := by
        rw [hD, List.getD_eq_getElem?_getD, List.getD_eq_getElem?_getD, List.getElem?_append_left (by omega)]
      rw [this]
      exact hM i hi
    have h17' : σ1.1 17 = nI K := by rw [i1 17 (by decide) (by decide)]; exact h17
    refine ⟨σ1, a1, ⟨hx1, hl1, by rw [i1 4 (by decide) (by decide)]; exact x3, ⟨m, K, Nat.le_refl m, a3, a2, by rw [hD, List.length_append]; omega, h17', hM1⟩, ?_⟩, a2⟩
    rcases x5 with z | ⟨z, y1, y2, y3⟩
    · exact Or.inl (by rw [i1 20 (by decide) (by decide)]; exact z)
    · obtain ⟨d1, d2, d3, d4, g1, g2, g3, g4⟩ := y1
      refine Or.inr ⟨by rw [i1 20 (by decide) (by decide)]; exact z, ⟨a3, a2, by rw [i1 17 (by decide) (by decide)]; exact d3, fun i hi => ?_, by rw [i1 18 (by decide) (by decide)]; exact g1, by rw [i1 19 (by decide) (by decide)]; exact g2, by rw [i1 22 (by decide) (by decide)]; exact g3, by rw [a5 13 (by decide) (by decide) (by decide)]; exact g4⟩, ?_, XRt_same y3 (fun k h1 h2 => i1 k (by omega) (by omega)) (a5 17 (by decide) (by decide) (by decide)) (a6 1 (by decide))⟩
      · rw [a5 7 (by decide) (by decide) (by decide), a5 8 (by decide) (by decide) (by decide), a5 9 (by decide) (by decide) (by decide), a5 10 (by decide) (by decide) (by decide)]
        exact d4 i hi
      · unfold XOrd RKR at y2 ⊢
        rw [i1 21 (by decide) (by decide), a5 14 (by decide) (by decide) (by decide)]
        exact y2
  obtain ⟨L, K, hL, h16, hT, hK, h17, hM⟩ := x4
  exact go L hL h16 hT K hK h17 hM (fun z => by
    rcases x5 with y | ⟨-, y, -⟩
    · rw [z] at y; exact absurd y (by decide)
    · exact y)
theorem isTree_x {σ : St} (ha : WAll fr to pr dm co dg cu n m root dep lod rf rt wy) (hx : IvX fr to pr dm co dg cu n m root dep lod rf rt wy σ) {N : Nat} (hN : 20 ≤ N) {x : Nat} (hxm : x < 2 ^ m) : (isTr fr to cu n m x ∧ ∃ σ', LT_isTree N (nI x) σ = some (1, σ') ∧ IvX fr to pr dm co dg cu n m root dep lod rf rt wy σ') ∨ (¬ isTr fr to cu n m x ∧ ∃ σ', LT_isTree N (nI x) σ = some (0, σ') ∧ IvX fr to pr dm co dg cu n m root dep lod rf rt wy σ') := by
  have hm14 := ha.1.2.2.1
  have h14 : 2 ^ m ≤ 2 ^ 14 := Nat.pow_le_pow_right (by decide) hm14
  have hcl := cmk_lt hm14 cu
  have hu := ucb_iff (x := x) ha.2.2.1
  unfold LT_isTree Net_hasLines
  rw [hx.1.2.2.1, shl32 m (by omega), hx.2.2.1]
  rcases has_ix (show 2 ^ m < 2 ^ 30 by omega) (nI x) with ⟨-, -, z⟩ | ⟨i, hi, e, z1, -⟩
  · exact absurd rfl (z x hxm)
  · rw [z1, if_neg (show ¬ (1 : Int32) = 0 by decide)]
    by_cases hc : x &&& cmk m cu = 0
    · rw [if_pos ((and_nI_zero (by omega) (by omega)).mpr hc)]
      obtain ⟨σ', a1, a2, a3⟩ := catch_x ha hx hN
      rw [bnd_t a1, bnd_t (TL_placeOf_ok a3 N (show x < 2 ^ 32 by omega))]
      have hucT := hu.mp (decide_eq_true hc)
      by_cases hT : x ∈ tl fr to m (fun v => v) n 0
      · left
        obtain ⟨t1, t2, t3⟩ := tl_isT hT
        refine ⟨⟨t2, hucT, t3⟩, σ', ?_, a2⟩
        have hcp := (cp_at (tl_sorted m (fun v => v) n 0) hT).1
        have hlen := a3.2.2.2.2.2.2
        rw [if_pos hT, if_neg (fun y => absurd y (nI_m1 (by omega)))]
      · right
        refine ⟨fun y => hT ((tl_mem m _ n 0 x).mpr ⟨x, hxm, by omega, y.2.2, y.1⟩), σ', ?_, a2⟩
        rw [if_neg hT, if_pos rfl]
    · rw [if_neg (fun y => hc ((and_nI_zero (by omega) (by omega)).mp y))]
      right
      exact ⟨fun y => hc (of_decide_eq_true (hu.mpr y.2.1)), σ, rfl, hx⟩
theorem IvM_sq3 {τ : St} (hm : IvM fr to pr dm co dg cu n m root dep lod rf rt wy τ) (F S B : Nat → Int32) : IvM fr to pr dm co dg cu n m root dep lod rf rt wy (sq3 τ F S B) := by
  obtain ⟨m1, m2, m3⟩ := hm
  exact ⟨(sq3_fr τ F S B).net m1, (sq3_fr τ F S B).lim m2, m3⟩
theorem hasLines_ix {σ τ : St} (ha : WAll fr to pr dm co dg cu n m root dep lod rf rt wy) (hx : IvX fr to pr dm co dg cu n m root dep lod rf rt wy σ) (hm : IvM fr to pr dm co dg cu n m root dep lod rf rt wy τ) (x : Int32) : (Net_hasLines x σ = 0 ∧ M_isSet x τ = 0) ∨ (∃ i, i < 2 ^ m ∧ x = nI i ∧ Net_hasLines x σ = 1 ∧ M_isSet x τ = 1) := by
  have hm14 := ha.1.2.2.1
  have h14 : 2 ^ m ≤ 2 ^ 14 := Nat.pow_le_pow_right (by decide) hm14
  unfold Net_hasLines M_isSet
  rw [hx.1.2.2.1, hm.1.2.1, shl32 m (by omega)]
  rcases has_ix (show 2 ^ m < 2 ^ 30 by omega) x with ⟨z1, z2, -⟩ | ⟨i, hi, e, z1, z2⟩
  · exact Or.inl ⟨z1, z2⟩
  · exact Or.inr ⟨i, hi, e, z1, z2⟩
theorem call_tree {σ τ : St} (hI : Inv σ τ) {N : Nat} (hN : 20000 ≤ N) (x : Int32) : Both (LT_tree N x σ) (M_tree N x τ) := by
  have hI0 := hI
  obtain ⟨fr, to, pr, dm, co, dg, cu, n, m, root, dep, lod, rf, rt, wy, ha, hx, hm⟩ := hI
  unfold LT_tree M_tree
  rcases hasLines_ix ha hx hm x with ⟨z1, z2⟩ | ⟨i, hi, e, z1, z2⟩
  · rw [z1, z2, if_pos rfl, if_pos rfl]
    exact ⟨_, _, _, rfl, rfl, hI0⟩
  · rw [z1, z2, if_neg (show ¬ (1 : Int32) = 0 by decide), if_neg (show ¬ (1 : Int32) = 0 by decide)]
    subst e
    unfold bnd2
    rcases isTree_x ha hx (show 20 ≤ N by omega) hi with ⟨t, σ', a1, a2⟩ | ⟨t, σ', a1, a2⟩ <;> rcases M_tree_all ha.1 hm.1 ha.2.2.1 ha.2.2.2.1 ha.2.1 (show 20 ≤ N by omega) hi with ⟨u, F, S, B, b1, b2⟩ | ⟨u, F, S, B, b1⟩
    · rw [a1, b1]
      exact ⟨1, σ', sq3 τ F S B, rfl, rfl, _, _, _, _, _, _, _, _, _, _, _, _, _, _, _, ha, a2, IvM_sq3 hm F S B⟩
    · exact absurd t u
    · exact absurd u t
    · rw [a1, b1]
      exact ⟨0, σ', sq3 τ F S B, rfl, rfl, _, _, _, _, _, _, _, _, _, _, _, _, _, _, _, ha, a2, IvM_sq3 hm F S B⟩
theorem walk_inv {σ : St} (hx : IvX fr to pr dm co dg cu n m root dep lod rf rt wy σ) (p d l w : Nat) : IvX fr to pr dm co dg cu n m root dep lod rf rt wy (wkS σ p d l w) := by
  have hf := wkS_fr σ p d l w
  have hag : Ag σ (wkS σ p d l w) := ⟨fun k hk => hf.1 k (by omega) (by omega) (by omega) (by omega), fun _ _ => rfl, rfl⟩
  refine hag.inv hx (fun z => ?_)
  obtain ⟨x1, x2, x3, x4, x5⟩ := hx
  rcases x5 with y | ⟨y, y1, y2, y3⟩
  · rw [z] at y; exact absurd y (by decide)
  · refine ⟨?_, XRt_same y3 (fun k h1 h2 => hf.1 k (by omega) (by omega) (by omega) (by omega)) rfl rfl⟩
    unfold XOrd RKR at y2 ⊢
    rw [hf.1 21 (by decide) (by decide) (by decide) (by decide)]
    exact y2
theorem call_breaks {σ τ : St} (hI : Inv σ τ) {N : Nat} (hN : 20000 ≤ N) (x : Int32) : Both (LT_breaks N x σ) (M_breaks N x τ) := by
  have hI0 := hI
  obtain ⟨fr, to, pr, dm, co, dg, cu, n, m, root, dep, lod, rf, rt, wy, ha, hx, hm⟩ := hI
  have hn8 := ha.1.2.1
  unfold LT_breaks M_breaks
  rcases hasLines_ix ha hx hm x with ⟨z1, z2⟩ | ⟨i, hi, e, z1, z2⟩
  · have e0 : LT_isTree N x σ = some (0, σ) := by unfold LT_isTree; rw [z1, if_pos rfl]
    rw [z2, if_pos rfl, e0]
    exact ⟨-1, σ, τ, rfl, rfl, hI0⟩
  · rw [z2, if_neg (show ¬ (1 : Int32) = 0 by decide)]
    subst e
    unfold bnd2
    rcases isTree_x ha hx (show 20 ≤ N by omega) hi with ⟨t, σ', a1, a2⟩ | ⟨t, σ', a1, a2⟩ <;> rcases M_tree_all ha.1 hm.1 ha.2.2.1 ha.2.2.2.1 ha.2.1 (show 20 ≤ N by omega) hi with ⟨u, F, S, B, b1, b2⟩ | ⟨u, F, S, B, b1⟩
    · have hiT : isT fr to n m i := ⟨hi, t.1, t.2.2⟩
      obtain ⟨c1, c2, c3, c4⟩ := meas_cap ha.1 hiT
      have hwk := Sh_walk_ok ha.1 a2.1 (show 20 ≤ N by omega) hi (load_cap ha.1 hi t.1 t.2.2)
      have hwx := walk_inv a2 (fP pr 0 (rW fr to pr m root i)) (fD 0 (rW fr to pr m root i)) (mL fr to pr dm m root i) (fW 0 (rW fr to pr m root i))
      rw [a1, b1]
      dsimp only
      rw [if_neg (show ¬ (1 : Int32) = 0 by decide), if_neg (show ¬ (1 : Int32) = 0 by decide), bnd_t hwk, bnd_t ((b2 τ hm.1).2 hm.2.1)]
      have hbr := Lim_broken hwx.1 hwx.2.1 ha.2.1 ha.1.2.2.1 ha.1.2.1 (fun e he => ⟨(ha.1.2.2.2.2.1 e he).1, (ha.1.2.2.2.2.1 e he).2.1⟩) ha.2.2.2.1 (N := N) (show 20 ≤ N by omega) (x := i) (D := mD fr to pr m root i) (L := mL fr to pr dm m root i) (W := mW fr to pr m root i) (by have := t.1; omega) (by omega) (by omega) (by omega)
      refine ⟨_, _, _, bnd_t hbr, rfl, _, _, _, _, _, _, _, _, _, _, _, _, _, _, _, ha, hwx, IvM_sq3 hm F S B⟩
    · exact absurd t u
    · exact absurd u t
    · rw [a1, b1]
      exact ⟨-1, σ', sq3 τ F S B, rfl, rfl, _, _, _, _, _, _, _, _, _, _, _, _, _, _, _, ha, a2, IvM_sq3 hm F S B⟩
end TRE
