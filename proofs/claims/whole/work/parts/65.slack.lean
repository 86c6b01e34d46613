/-! the call for a line's slack -/
section SLK
variable {fr to pr dm co dg cu : Nat → Nat} {n m root dep lod rf rt wy : Nat}
theorem isCut_ok {σ : St} (ha : WAll fr to pr dm co dg cu n m root dep lod rf rt wy) (hx : IvX fr to pr dm co dg cu n m root dep lod rf rt wy σ) {i : Nat} (hi : i < m) : Net_isCut (nI i) σ = nI (cu i) := by
  have hm14 := ha.1.2.2.1
  have hcl := cmk_lt hm14 cu
  have hc1 := ha.2.2.1 i hi
  unfold Net_isCut
  rw [hx.2.2.1]
  by_cases q : cu i = 1
  · rw [if_neg (fun y => ?_), q]; rfl
    have := (bit0_nI (by omega) (by omega)).mp y
    rw [cmk_bit hi, q] at this
    cases this
  · have q0 : cu i = 0 := by omega
    rw [if_pos ((bit0_nI (by omega) (by omega)).mpr (by rw [cmk_bit hi, q0]; rfl)), q0]; rfl
theorem lex_first {c : Nat → Nat} {K i0 j : Nat} (hi0 : i0 < K) (hj : j < K) (h0 : posK c K i0 = 0) (h : c j < c i0 ∨ (c j = c i0 ∧ j ≤ i0)) : j = i0 := by
  refine Decidable.byContradiction fun z => ?_
  have := posK_mono (d := c) (K := K) hj (show c j < c i0 ∨ (c j = c i0 ∧ j < i0) by omega)
  omega
theorem lex_same {c : Nat → Nat} {K i j : Nat} (hi : i < K) (hj : j < K) (h1 : posK c K i ≤ posK c K j) (h2 : c j < c i ∨ (c j = c i ∧ j ≤ i)) : j = i := by
  refine Decidable.byContradiction fun z => ?_
  have := posK_mono (d := c) (K := K) hj (show c j < c i ∨ (c j = c i ∧ j < i) by omega)
  omega
theorem call_slack {σ τ : St} (hI : Inv σ τ) {N : Nat} (hN : 20000 ≤ N) (x : Int32) : Both (LT_slack N x σ) (M_slack N x τ) := by
  obtain ⟨fr, to, pr, dm, co, dg, cu, n, m, root, dep, lod, rf, rt, wy, ha, hx, hm⟩ := hI
  obtain ⟨τ', b1, b2, b3, b4, b5⟩ := judge_m ha hm hN
  have hcu := ha.2.2.1
  have hm14 := ha.1.2.2.1
  have h14 : 2 ^ m ≤ 2 ^ 14 := Nat.pow_le_pow_right (by decide) hm14
  have early : Inv σ τ' := ⟨_, _, _, _, _, _, _, _, _, _, _, _, _, _, _, ha, hx, b2⟩
  unfold LT_slack M_slack
  rw [bnd_t b1]
  have hpost : ∀ y, M_isLine y τ' = M_lies y 0 (nI m - 1) := fun y => by unfold M_isLine; rw [b2.1.2.1]
  have hline : ∀ y, Net_hasLine y σ = if y < 0 then (0 : Int32) else if nI m ≤ y then 0 else 1 := fun y => by unfold Net_hasLine; rw [hx.1.2.2.1]
  rw [hpost, hline]
  rcases has_ix (show m < 2 ^ 30 by omega) x with ⟨z1, z2, -⟩ | ⟨e, he, ex, z1, z2⟩
  · rw [z1, z2, if_pos rfl, if_pos rfl]
    exact ⟨_, _, _, rfl, rfl, early⟩
  · rw [z1, z2, if_neg (show ¬ (1 : Int32) = 0 by decide), if_neg (show ¬ (1 : Int32) = 0 by decide)]
    subst ex
    have hc1 := hcu e he
    rw [isCut_ok ha hx he, grd_t (inb_nI (show e < 14 by omega) (by decide)), nI_clamp (by omega), b2.1.2.2.2.2.1 e (by omega)]
    by_cases hc : cu e = 0
    · rw [if_pos ((nI_z (by omega)).mpr hc), if_pos ((nI_z (by omega)).mpr hc)]
      obtain ⟨σ1, a1, a2, a3, a4, a5, a6⟩ := judge_x ha hx hN
      have hlen := GD_len (fr := fr) (to := to) (pr := pr) (dm := dm) (co := co) (dg := dg) (n := n) (root := root) (dep := dep) (lod := lod) (rf := rf) (rt := rt) (wy := wy) hcu
      have hcap := GD_cap (co := co) (dg := dg) (dep := dep) (lod := lod) (rf := rf) (rt := rt) (wy := wy) ha.1 hcu
      obtain ⟨G, hG⟩ : ∃ G, G = GD fr to pr dm co dg cu n m root dep lod rf rt wy := ⟨_, rfl⟩
      obtain ⟨PL, hPL⟩ : ∃ PL, PL = XGood fr to pr dm co dg cu n m root dep lod rf rt wy := ⟨_, rfl⟩
      obtain ⟨c, hcc⟩ : ∃ c, c = cG fr to pr dm co dg cu n m root dep lod rf rt wy := ⟨_, rfl⟩
      rw [← hG] at hcap
      rw [← hG, ← hPL] at hlen
      have e10 : τ'.1 10 = nI G.length := by rw [hG]; exact b4.1.2.1
      have e18 : σ1.1 18 = nI G.length := by rw [hlen, hPL]; exact a4.2.2.2.2.1
      have hgl : ∀ i, i < G.length → G.getD i 0 < 2 ^ 14 := fun i hi => by
        have := (gT_isT (fr := fr) (to := to) (cu := cu) (n := n) (m := m) (show G.getD i 0 ∈ gT (tb fr to cu n m) (bvl fr to pr dm co dg n m root dep lod rf rt wy) (2 ^ m) by rw [hG] at hi ⊢; exact getD_mem hi)).1
        omega
      have hcl : ∀ i, i < G.length → c i < 2 ^ 31 := fun i hi => by
        have := (meas_cap ha.1 (gT_isT (fr := fr) (to := to) (cu := cu) (n := n) (m := m) (show G.getD i 0 ∈ gT (tb fr to cu n m) (bvl fr to pr dm co dg n m root dep lod rf rt wy) (2 ^ m) by rw [hG] at hi ⊢; exact getD_mem hi))).1
        rw [hcc]
        show mP fr to pr m root _ < _
        rw [← hG]
        omega
      have e11 : ∀ i, i < G.length → τ'.2.1 11 i = nI (G.getD i 0) := fun i hi => by rw [hG] at hi ⊢; exact (b4.1.2.2.2.1 i hi).1
      have e12 : ∀ i, i < G.length → τ'.2.1 12 i = nI (c i) ∧ c i < 2 ^ 31 := fun i hi => ⟨by rw [hcc]; rw [hG] at hi; exact (b4.1.2.2.2.1 i hi).2.1, hcl i hi⟩
      rw [bnd_t a1, e10]
      unfold GT_slackOf
      rw [e18]
      by_cases hz : G.length = 0
      · rw [hz, if_pos (show nI 0 = 0 from rfl), if_pos (show nI 0 = 0 from rfl)]
        exact ⟨-1, σ1, τ', rfl, rfl, _, _, _, _, _, _, _, _, _, _, _, _, _, _, _, ha, a2, b2⟩
      · rw [if_neg (fun w => hz ((nI_z (by omega)).mp w)), if_neg (fun w => hz ((nI_z (by omega)).mp w))]
        obtain ⟨σ2, r1, r2, r3, r4, r5, r6⟩ := rank_x ha a4 a5 hN
        have hd2 := (rank_ag r4 r5 r6).done a4
        have fin : Inv σ2 τ' := ⟨_, _, _, _, _, _, _, _, _, _, _, _, _, _, _, ha, rank_inv a2 a6 r2 r3 r4 r5 r6, b2⟩
        have ht := a4.2.1.2.2.2.2.2.2
        rw [← hPL, ← hcc] at r2
        rw [← hlen] at r2
        have hP : ∀ i, i < G.length → PL.getD i 0 < 1280 := fun i hi => by
          rw [hlen, hPL] at hi
          rw [hPL]
          have := XG_lt hi
          omega
        obtain ⟨i0, hi0, h0⟩ := posK_surj (d := c) (show 0 < G.length by omega)
        have hpr := placeRanked_ok hcap r1 r2 hP hi0
        rw [h0] at hpr
        rw [show (0 : Int32) = nI 0 from rfl, hpr]
        have w6 : ∀ i, i < G.length → σ2.2.1 6 (PL.getD i 0) = nI (G.getD i 0) ∧ G.getD i 0 < 2 ^ 14 := fun i hi => by
          refine ⟨?_, hgl i hi⟩
          rw [hlen, hPL] at hi
          rw [hPL, hG, hd2.2.1.2.1 _ (XG_lt hi), ← GD_at hcu hi]
        have w7 : ∀ i, i < G.length → σ2.2.1 7 (PL.getD i 0) = nI (c i) := fun i hi => by
          rw [hlen, hPL] at hi
          rw [hPL, hcc, (hd2.2.2.2.1 _ (XG_lt hi)).1, ← GD_at hcu hi]; rfl
        have e18' : σ2.1 18 = nI G.length := by rw [r4 18 (by decide)]; exact e18
        have walk := slack_walk hcap e18' r3 r2 hP w6 w7 (show e < 14 by omega) (N := N) hi0 (G.length - 1) 1 (by omega) (fun i hi h => by rw [posK_inj hi hi0 (show posK c G.length i = posK c G.length i0 by omega)]) N (by omega)
        obtain ⟨rb, m1, m2⟩ := M_best_ok hcap e10 e11 e12 (show 1300 ≤ N by omega) (-1) 1 (fun _ => true) (Or.inl ⟨rfl, fun _ _ => rfl⟩)
        have erb : rb = nI i0 := by
          rcases m2 with ⟨-, w⟩ | ⟨j, hj, w1, -, w2⟩
          · exact absurd (show true = false from w i0 hi0) (by decide)
          · rw [w1, lex_first hi0 hj h0 (w2 i0 hi0 rfl)]
        rw [bnd_t m1, erb, grd_t (inb_nI (by omega) (by decide)), nI_clamp (by omega), e11 i0 hi0, M_has_nI (by have := hgl i0 hi0; omega) (by omega)]
        -- the reference's second look
        have look2 : ∀ t0 : Int32, t0 = (if (G.getD i0 0).testBit e = true then 0 else 1) → ∃ r : Int32, bnd2 (some (nI (PL.getD i0 0), σ2)) (fun y10 σ11 => GT_slackOf_17 N (GT_slackOf_59 N) N (nI e) y10 1 σ11) = some (r, σ2) ∧ M_slack_57 N (nI i0) t0 (nI e) τ' = some (r, τ') := by
          intro t0 ht0
          obtain ⟨rc, n1, n2⟩ := M_best_ok hcap e10 e11 e12 (show 1300 ≤ N by omega) (nI e) t0 (fun k => decide ((G.getD k 0).testBit e ≠ (G.getD i0 0).testBit e)) (Or.inr ⟨nI_m1 (by omega), fun k hk => by
            rw [M_has_nI (by have := hgl k hk; omega) (by omega), ht0, decide_eq_true_eq]
            cases h1 : (G.getD k 0).testBit e <;> cases h2 : (G.getD i0 0).testBit e <;> decide⟩)
          unfold M_slack_57
          rw [bnd_t n1]
          unfold bnd2
          dsimp only
          rcases walk with ⟨w1, w2⟩ | ⟨i, hi, w1, w2, w3⟩
          · have erc : rc = -1 := by
              rcases n2 with ⟨w, -⟩ | ⟨j, hj, -, w, -⟩
              · exact w
              · exact absurd (w2 j hj) (of_decide_eq_true w)
            rw [erc, if_pos rfl]
            exact ⟨-1, w1, rfl⟩
          · have erc : rc = nI i := by
              rcases n2 with ⟨-, w⟩ | ⟨j, hj, w, w4, w5⟩
              · exact absurd w1 (of_decide_eq_false (w i hi))
              · rw [w, lex_same hi hj (w2 j hj (of_decide_eq_true w4)) (w5 i hi (decide_eq_true w1))]
            rw [erc, if_neg (nI_m1 (by omega)), grd_t (inb_nI (by omega) (by decide)), grd_t (inb_nI (by omega) (by decide)), nI_clamp (by omega), nI_clamp (by omega), (e12 i hi).1, (e12 i0 hi0).1]
            exact ⟨_, w3, rfl⟩
        by_cases hb : (G.getD i0 0).testBit e = true
        · rw [if_pos hb, if_neg (show ¬ (1 : Int32) = nI 0 by decide)]
          obtain ⟨r, s1, s2⟩ := look2 0 (by rw [if_pos hb])
          refine ⟨r, σ2, τ', ?_, s2, fin⟩
          rw [s1]; rfl
        · rw [if_neg hb, if_pos (show (0 : Int32) = nI 0 from rfl)]
          obtain ⟨r, s1, s2⟩ := look2 1 (by rw [if_neg hb])
          refine ⟨r, σ2, τ', ?_, s2, fin⟩
          rw [s1]; rfl
    · rw [if_neg (fun w => hc ((nI_z (by omega)).mp w)), if_neg (fun w => hc ((nI_z (by omega)).mp w))]
      exact ⟨_, _, _, rfl, rfl, early⟩
end SLK
