/-! the calls swaps and step -/
section SWC
variable {fr to pr dm co dg cu : Nat → Nat} {n m root dep lod rf rt wy : Nat}
theorem GD_GX (ha : WAll fr to pr dm co dg cu n m root dep lod rf rt wy) : GX (GD fr to pr dm co dg cu n m root dep lod rf rt wy) m (n - 1) := by
  refine ⟨gT_sorted _ _ _, fun x hx => ?_, ha.1.2.2.1, GD_cap ha.1 ha.2.2.1⟩
  have h := gT_isT hx
  refine ⟨h.1, ?_⟩
  rw [pck_ext h.1 ha.1.2.2.1]
  have := h.2.1
  omega
theorem AgR.ag {σ0 σ : St} (h : AgR σ0 σ) : Ag σ0 σ := ⟨fun k hk => h.1 k (by omega), fun k hk => h.2.1 k (by omega), h.2.2 0 (by decide)⟩
theorem idx_G (ha : WAll fr to pr dm co dg cu n m root dep lod rf rt wy) {x : Nat} (hx : x ∈ GD fr to pr dm co dg cu n m root dep lod rf rt wy) : ∃ i, i < (GD fr to pr dm co dg cu n m root dep lod rf rt wy).length ∧ (GD fr to pr dm co dg cu n m root dep lod rf rt wy).getD i 0 = x ∧ (GD fr to pr dm co dg cu n m root dep lod rf rt wy).countP (fun y => decide (y < x)) = i ∧ (tl fr to m (fun v => v) n 0).countP (fun y => decide (y < x)) = (XGood fr to pr dm co dg cu n m root dep lod rf rt wy).getD i 0 := by
  obtain ⟨c1, c2⟩ := cp_at (GD_GX ha).1 hx
  obtain ⟨p1, p2⟩ := place_G ha.2.2.1 hx
  exact ⟨_, c1, c2, rfl, p2.symm⟩
theorem idx_G' (ha : WAll fr to pr dm co dg cu n m root dep lod rf rt wy) {i : Nat} (hi : i < (GD fr to pr dm co dg cu n m root dep lod rf rt wy).length) : (tl fr to m (fun v => v) n 0).countP (fun y => decide (y < (GD fr to pr dm co dg cu n m root dep lod rf rt wy).getD i 0)) = (XGood fr to pr dm co dg cu n m root dep lod rf rt wy).getD i 0 := by
  obtain ⟨j, h1, h2, h3, h4⟩ := idx_G ha (getD_mem hi)
  rw [h4, srt_inj (GD_GX ha).1 h1 hi h2]
theorem SX_of {σ : St} (ha : WAll fr to pr dm co dg cu n m root dep lod rf rt wy) (hd : XDone σ fr to pr dm co dg cu n m root dep lod rf rt wy) : SX σ (XGood fr to pr dm co dg cu n m root dep lod rf rt wy) (GD fr to pr dm co dg cu n m root dep lod rf rt wy) m (n - 1) := by
  have hG := GD_GX ha
  have hcu := ha.2.2.1
  have hlen := GD_len (fr := fr) (to := to) (pr := pr) (dm := dm) (co := co) (dg := dg) (n := n) (root := root) (dep := dep) (lod := lod) (rf := rf) (rt := rt) (wy := wy) hcu
  have ht := hd.2.1.2.2.2.2.2.2
  refine ⟨hG, fun i hi => ?_, fun i j hi hj e => ?_, ?_, fun i hi => ⟨?_, ?_⟩, fun σ' hA i hi N => ?_⟩
  · have := XG_lt (show i < (XGood fr to pr dm co dg cu n m root dep lod rf rt wy).length by omega)
    omega
  · exact srt_inj hG.1 hi hj (by rw [GD_at hcu (by omega), GD_at hcu (by omega), e])
  · rw [hlen]; exact hd.2.2.2.2.1
  · exact hd.2.2.2.2.2.2.2 i (show i < (XGood fr to pr dm co dg cu n m root dep lod rf rt wy).length by omega)
  · rw [hd.2.1.2.1 _ (XG_lt (by omega)), GD_at hcu (by omega)]
  · have hd' := hA.ag.done hd
    have hx := getD_mem hi
    have hz := hG.2.1 _ hx
    have p14 : 2 ^ m ≤ 2 ^ 14 := Nat.pow_le_pow_right (by decide) hG.2.2.1
    rw [TL_placeOf_ok hd'.2.1 N (by omega), if_pos ((GD_mem hcu).mp hx).1, idx_G' ha hi]
theorem MG_of {τ : St} (hm : IvM fr to pr dm co dg cu n m root dep lod rf rt wy τ) (hd : MDone τ fr to pr dm co dg cu n m root dep lod rf rt wy) : MG τ (GD fr to pr dm co dg cu n m root dep lod rf rt wy) m := ⟨hd.1.2.1, hm.1.2.1, fun i hi => (hd.1.2.2.2.1 i hi).1, fun x hx => hd.1.2.2.2.2 x hx⟩
theorem MDone_same {τ τ' : St} (h1 : τ'.1 = τ.1) (h2 : ∀ k, k ≠ 17 → k ≠ 18 → τ'.2.1 k = τ.2.1 k) (hd : MDone τ fr to pr dm co dg cu n m root dep lod rf rt wy) : MDone τ' fr to pr dm co dg cu n m root dep lod rf rt wy := by
  obtain ⟨⟨a1, a2, a3, a4, a5⟩, a6⟩ := hd
  refine ⟨⟨by rw [h1]; exact a1, by rw [h1]; exact a2, ?_, ?_, ?_⟩, ?_⟩
  · rw [h2 10 (by decide) (by decide)]; exact a3
  · rw [h2 11 (by decide) (by decide), h2 12 (by decide) (by decide), h2 13 (by decide) (by decide)]; exact a4
  · rw [h2 14 (by decide) (by decide)]; exact a5
  · unfold MOR
    rw [h2 15 (by decide) (by decide)]; exact a6
theorem way_m {τ : St} (ha : WAll fr to pr dm co dg cu n m root dep lod rf rt wy) (hm : IvM fr to pr dm co dg cu n m root dep lod rf rt wy τ) (h8 : τ.1 8 = 1) (hd : MDone τ fr to pr dm co dg cu n m root dep lod rf rt wy) {N : Nat} (hN : 20000 ≤ N) {g : Nat} (hg : g < (GD fr to pr dm co dg cu n m root dep lod rf rt wy).length) : ∃ τ', M_measures N (nI g) τ = some τ' ∧ IvM fr to pr dm co dg cu n m root dep lod rf rt wy τ' ∧ τ'.1 8 = 1 ∧ MDone τ' fr to pr dm co dg cu n m root dep lod rf rt wy ∧ FD (GD fr to pr dm co dg cu n m root dep lod rf rt wy).length (adjG (GD fr to pr dm co dg cu n m root dep lod rf rt wy)) g (τ'.2.1 17) := by
  obtain ⟨τ', q1, q2, q3, q4, q5⟩ := M_measures_ok (GD_GX ha) (MG_of hm hd) hN hg
  have hf : FrW τ τ' := ⟨fun k _ => by rw [q2], fun k hk => q3 k (by omega) (by omega)⟩
  have h8' : τ'.1 8 = 1 := by rw [q2]; exact h8
  have hd' := MDone_same q2 q3 hd
  exact ⟨τ', q1, ⟨hf.net hm.1, hf.lim hm.2.1, Or.inr ⟨h8', hd'⟩⟩, h8', hd', q5⟩
theorem way_inv {σ σ' : St} (hx : IvX fr to pr dm co dg cu n m root dep lod rf rt wy σ) (ho : XOrd fr to pr dm co dg cu n m root dep lod rf rt wy σ) {g l : Nat} (hg : g < (GD fr to pr dm co dg cu n m root dep lod rf rt wy).length) (h : XL σ σ' (XGood fr to pr dm co dg cu n m root dep lod rf rt wy) (GD fr to pr dm co dg cu n m root dep lod rf rt wy) g l) : IvX fr to pr dm co dg cu n m root dep lod rf rt wy σ' := by
  have hA := h.2.1.1
  refine hA.ag.inv hx (fun _ => ⟨?_, XL_XRt hg h⟩)
  rcases ho with z | ⟨z1, z2⟩
  · exact Or.inl (by rw [hA.1 21 (by decide)]; exact z)
  · refine Or.inr ⟨by rw [hA.1 21 (by decide)]; exact z1, ?_⟩
    unfold RKR
    rw [hA.2.1 14 (by decide)]
    exact z2
theorem call_swaps {σ τ : St} (hI : Inv σ τ) {N : Nat} (hN : 20000 ≤ N) (x1 x2 : Int32) : Both (LT_swaps N x1 x2 σ) (M_swaps N x1 x2 τ) := by
  obtain ⟨fr, to, pr, dm, co, dg, cu, n, m, root, dep, lod, rf, rt, wy, ha, hx, hm⟩ := hI
  obtain ⟨z1, hz1, rfl⟩ := wb_of32 x1
  obtain ⟨z2, hz2, rfl⟩ := wb_of32 x2
  obtain ⟨σ1, a1, a2, a3, a4, a5, a6⟩ := judge_x ha hx hN
  obtain ⟨τ1, b1, b2, b3, b4, b5⟩ := goodOf_ok ha hm hN hz1
  obtain ⟨τ2, c1, c2, c3, c4, c5⟩ := goodOf_ok ha b2 hN hz2
  have et := c5 b3
  subst et
  have hcap := GD_cap (co := co) (dg := dg) (dep := dep) (lod := lod) (rf := rf) (rt := rt) (wy := wy) ha.1 ha.2.2.1
  have hS := SX_of ha a4
  unfold LT_swaps M_swaps
  rw [bnd_t a1, bnd_t (placeOfGood_ok ha a2 a4 (by omega) hz1), bnd_t (placeOfGood_ok ha a2 a4 (by omega) hz2), b1]
  unfold bnd2
  dsimp only
  rw [c1]
  dsimp only
  by_cases g1 : z1 ∈ GD fr to pr dm co dg cu n m root dep lod rf rt wy
  · obtain ⟨i, i1, i2, i3, i4⟩ := idx_G ha g1
    have pi := hS.2.1 i i1
    rw [if_pos g1, if_pos g1, i3, i4, if_neg (nI_m1 (by omega)), if_neg (nI_m1 (by omega))]
    by_cases g2 : z2 ∈ GD fr to pr dm co dg cu n m root dep lod rf rt wy
    · obtain ⟨g, e1, e2, e3, e4⟩ := idx_G ha g2
      have pg := hS.2.1 g e1
      rw [if_pos g2, if_pos g2, e3, e4, if_neg (nI_m1 (by omega)), if_neg (nI_m1 (by omega))]
      obtain ⟨τ', q1, q2, q3, q4, q5⟩ := way_m ha c2 c3 c4 hN e1
      obtain ⟨r, σ', l, w1, w2, w3⟩ := length_ok hS a6 hN e1 i1
      rw [w1, bnd_t q1]
      dsimp only
      rw [grd_t (inb_nI (by omega) (by decide)), nI_clamp (by omega)]
      have er : τ'.2.1 17 i = r := by
        rcases w3 with ⟨y1, y2⟩ | ⟨y1, y2⟩
        · rw [y2]
          have := ds_le (K := (GD fr to pr dm co dg cu n m root dep lod rf rt wy).length) (adj := adjG (GD fr to pr dm co dg cu n m root dep lod rf rt wy)) (g := g) l i
          have := w2.1
          exact (FD_iff q5 i1 (by omega)).mpr (ExD_ds y1)
        · rw [y1]
          rcases q5 i i1 with ⟨k1, -⟩ | ⟨d, -, -, k3, -⟩
          · exact k1
          · rw [y2 d] at k3; cases k3
      rw [er]
      exact ⟨_, _, _, rfl, rfl, _, _, _, _, _, _, _, _, _, _, _, _, _, _, _, ha, way_inv a2 a5 e1 w2, q2⟩
    · rw [if_neg g2, if_neg g2, if_pos rfl, if_pos rfl]
      exact ⟨_, _, _, rfl, rfl, _, _, _, _, _, _, _, _, _, _, _, _, _, _, _, ha, a2, c2⟩
  · rw [if_neg g1, if_neg g1, if_pos rfl, if_pos rfl]
    exact ⟨_, _, _, rfl, rfl, _, _, _, _, _, _, _, _, _, _, _, _, _, _, _, ha, a2, c2⟩
theorem lies_m1 (x : Int32) : M_lies x 0 (-1) = 0 := by
  have := lies_ix (K := 0) (by decide) x
  rw [show nI 0 - 1 = -1 by decide] at this
  rcases this with ⟨z, -⟩ | ⟨i, hi, -⟩
  · exact z
  · omega
theorem lies_three {D : Nat} (hD : D < 2 ^ 29) (x : Int32) : (x < 0 ∧ M_lies x 0 (nI D) = 0) ∨ (¬ x < 0 ∧ ¬ x ≤ nI D ∧ M_lies x 0 (nI D) = 0) ∨ ∃ s, s ≤ D ∧ x = nI s ∧ ¬ x < 0 ∧ M_lies x 0 (nI D) = 1 := by
  by_cases h0 : x < 0
  · left
    refine ⟨h0, ?_⟩
    unfold M_lies
    rw [if_pos h0]
  · right
    rcases lies_to hD x with z | ⟨i, i1, i2, i3⟩
    · left
      refine ⟨h0, fun hle => ?_, z⟩
      unfold M_lies at z
      rw [if_neg h0, if_neg (show ¬ nI D < x from fun w => by rw [fa_lt] at w; rw [fa_le] at hle; omega)] at z
      exact absurd z (by decide)
    · right
      exact ⟨i, i1, i2, h0, i3⟩
theorem call_step {σ τ : St} (hI : Inv σ τ) {N : Nat} (hN : 20000 ≤ N) (x1 x2 x3 : Int32) : Both (LT_step N x1 x2 x3 σ) (M_step N x1 x2 x3 τ) := by
  obtain ⟨fr, to, pr, dm, co, dg, cu, n, m, root, dep, lod, rf, rt, wy, ha, hx, hm⟩ := hI
  obtain ⟨z1, hz1, rfl⟩ := wb_of32 x1
  obtain ⟨z2, hz2, rfl⟩ := wb_of32 x2
  obtain ⟨σ1, a1, a2, a3, a4, a5, a6⟩ := judge_x ha hx hN
  obtain ⟨τ1, b1, b2, b3, b4, b5⟩ := goodOf_ok ha hm hN hz1
  obtain ⟨τ2, c1, c2, c3, c4, c5⟩ := goodOf_ok ha b2 hN hz2
  have et := c5 b3
  subst et
  have hcap := GD_cap (co := co) (dg := dg) (dep := dep) (lod := lod) (rf := rf) (rt := rt) (wy := wy) ha.1 ha.2.2.1
  have hS := SX_of ha a4
  have hG := GD_GX ha
  unfold LT_step M_step M_swaps
  rw [bnd_t a1, bnd_t (placeOfGood_ok ha a2 a4 (by omega) hz1), bnd_t (placeOfGood_ok ha a2 a4 (by omega) hz2), b1]
  unfold bnd2
  dsimp only
  rw [c1]
  dsimp only
  by_cases g1 : z1 ∈ GD fr to pr dm co dg cu n m root dep lod rf rt wy
  · obtain ⟨i, i1, i2, i3, i4⟩ := idx_G ha g1
    have pi := hS.2.1 i i1
    rw [if_pos g1, if_pos g1, i3, i4, if_neg (nI_m1 (by omega)), if_neg (nI_m1 (by omega))]
    by_cases g2 : z2 ∈ GD fr to pr dm co dg cu n m root dep lod rf rt wy
    · obtain ⟨g, e1, e2, e3, e4⟩ := idx_G ha g2
      have pg := hS.2.1 g e1
      rw [if_pos g2, if_pos g2, e3, e4, if_neg (nI_m1 (by omega)), if_neg (nI_m1 (by omega))]
      obtain ⟨τ', q1, q2, q3, q4, q5⟩ := way_m ha c2 c3 c4 hN e1
      obtain ⟨r, σ', l, w1, w2, w3⟩ := length_ok hS a6 hN e1 i1
      have hv' := way_inv a2 a5 e1 w2
      rw [bnd_t q1]
      rw [grd_t (inb_nI (by omega) (by decide)), nI_clamp (by omega)]
      dsimp only
      unfold Rt_treeAt
      rcases w3 with ⟨y1, y2⟩ | ⟨y1, y2⟩
      · have dl := ds_le (K := (GD fr to pr dm co dg cu n m root dep lod rf rt wy).length) (adj := adjG (GD fr to pr dm co dg cu n m root dep lod rf rt wy)) (g := g) l i
        have hl := w2.1
        have hE := ExD_ds y1
        have er : τ'.2.1 17 i = nI (ds (GD fr to pr dm co dg cu n m root dep lod rf rt wy).length (adjG (GD fr to pr dm co dg cu n m root dep lod rf rt wy)) g l i) := (FD_iff q5 i1 (by omega)).mpr hE
        have hD : ds (GD fr to pr dm co dg cu n m root dep lod rf rt wy).length (adjG (GD fr to pr dm co dg cu n m root dep lod rf rt wy)) g l i < 1280 := by
          rcases q5 i i1 with ⟨-, k2⟩ | ⟨d, k1, k2, k3, k4⟩
          · rw [k2 l] at y1; cases y1
          · rw [ExD_one hE ⟨k3, k4⟩]; exact k2
        generalize ds (GD fr to pr dm co dg cu n m root dep lod rf rt wy).length (adjG (GD fr to pr dm co dg cu n m root dep lod rf rt wy)) g l i = D at *
        rw [er]
        rcases lies_three (show D < 2 ^ 29 by omega) x3 with ⟨v1, v2⟩ | ⟨v1, v2, v3⟩ | ⟨s, v1, rfl, v3, v4⟩
        · rw [if_pos v1, v2, if_pos rfl]
          exact ⟨_, _, _, rfl, rfl, _, _, _, _, _, _, _, _, _, _, _, _, _, _, _, ha, a2, q2⟩
        · rw [if_neg v1, v3, if_pos rfl, w1]
          unfold bnd2
          dsimp only
          rw [y2, if_neg v2]
          exact ⟨_, _, _, rfl, rfl, _, _, _, _, _, _, _, _, _, _, _, _, _, _, _, ha, hv', q2⟩
        · obtain ⟨j, j1, j2, j3⟩ := treeAt22_ok hS hN w2 (i := i) (by omega) v1 (Rt_treeAt_42 N) s 0 (by omega) N (by omega) i i1 rfl hE
          obtain ⟨τ3, d1, d2, d3, d4, d5⟩ := goodOf_ok ha q2 hN hz1
          have et := d5 q3
          subst et
          have hmo := M_step26_ok hG (MG_of q2 q4) q5 hN (M_step_140 N) hD v1 j2 s 0 (by omega) N (by omega) i i1 rfl hE
          have pj := hS.2.1 j j1
          have hd' := w2.2.1.1.ag.done a4
          have hS' := SX_of ha hd'
          rw [if_neg v3, v4, if_neg (show ¬ (1 : Int32) = 0 by decide), w1, d1, if_pos g1, i3]
          unfold bnd2
          dsimp only
          rw [y2, if_pos (nI_le v1 (by omega)), show (0 : Int32) = nI 0 from rfl, j3, hmo]
          unfold Rt_treeAt_42 M_step_140
          rw [grd_t (inb_nI pj (by decide)), nI_clamp (by omega), (hS'.2.2.2.2.1 j j1).2, grd_t (inb_nI (by omega) (by decide)), nI_clamp (by omega), (MG_of q2 q4).2.2.1 j j1]
          exact ⟨_, _, _, rfl, rfl, _, _, _, _, _, _, _, _, _, _, _, _, _, _, _, ha, hv', q2⟩
      · have er : τ'.2.1 17 i = -1 := by
          rcases q5 i i1 with ⟨k1, -⟩ | ⟨d, -, -, k3, -⟩
          · exact k1
          · rw [y2 d] at k3; cases k3
        rw [er, lies_m1, if_pos rfl]
        by_cases v1 : x3 < 0
        · rw [if_pos v1]
          exact ⟨_, _, _, rfl, rfl, _, _, _, _, _, _, _, _, _, _, _, _, _, _, _, ha, a2, q2⟩
        · have v2 : ¬ x3 ≤ -1 := fun z => v1 (by
            rw [fa_lt]
            rw [fa_le] at z
            have h1 : ((-1 : Int32)).toInt = -1 := by decide
            have h2 : ((0 : Int32)).toInt = 0 := by decide
            omega)
          rw [if_neg v1, w1]
          unfold bnd2
          dsimp only
          rw [y1, if_neg v2]
          exact ⟨_, _, _, rfl, rfl, _, _, _, _, _, _, _, _, _, _, _, _, _, _, _, ha, hv', q2⟩
    · rw [if_neg g2, if_neg g2, if_pos rfl, if_pos rfl]
      dsimp only
      rw [lies_m1, if_pos rfl]
      exact ⟨_, _, _, rfl, rfl, _, _, _, _, _, _, _, _, _, _, _, _, _, _, _, ha, a2, c2⟩
  · rw [if_neg g1, if_neg g1, if_pos rfl, if_pos rfl]
    dsimp only
    rw [lies_m1, if_pos rfl]
    exact ⟨_, _, _, rfl, rfl, _, _, _, _, _, _, _, _, _, _, _, _, _, _, _, ha, a2, c2⟩
end SWC
