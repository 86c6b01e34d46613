/-! the place of a good tree, on both sides -/
section GPL
variable {fr to pr dm co dg cu : Nat → Nat} {n m root dep lod rf rt wy : Nat}
theorem srt_inj {T : List Nat} (h : T.Pairwise (· < ·)) {i j : Nat} (hi : i < T.length) (hj : j < T.length) (e : T.getD i 0 = T.getD j 0) : i = j := by
  rw [List.getD_eq_getElem?_getD, List.getD_eq_getElem?_getD, List.getElem?_eq_getElem hi, List.getElem?_eq_getElem hj] at e
  have e' : T[i] = T[j] := e
  have hp := List.pairwise_iff_getElem.mp h
  refine Nat.le_antisymm (Nat.not_lt.mp fun z => ?_) (Nat.not_lt.mp fun z => ?_)
  · have := hp j i hj hi z; omega
  · have := hp i j hi hj z; omega
theorem GD_mem (hcu : ∀ e, e < m → cu e ≤ 1) {x : Nat} : x ∈ GD fr to pr dm co dg cu n m root dep lod rf rt wy ↔ x ∈ tl fr to m (fun v => v) n 0 ∧ ucb m cu x = true ∧ bvl fr to pr dm co dg n m root dep lod rf rt wy x = 0 := by
  unfold GD gT
  rw [uT_eq hcu, List.mem_filter, List.mem_filter, decide_eq_true_eq, and_assoc]
theorem place_G (hcu : ∀ e, e < m → cu e ≤ 1) {x : Nat} (hx : x ∈ GD fr to pr dm co dg cu n m root dep lod rf rt wy) : (GD fr to pr dm co dg cu n m root dep lod rf rt wy).countP (fun y => decide (y < x)) < (XGood fr to pr dm co dg cu n m root dep lod rf rt wy).length ∧ (XGood fr to pr dm co dg cu n m root dep lod rf rt wy).getD ((GD fr to pr dm co dg cu n m root dep lod rf rt wy).countP (fun y => decide (y < x))) 0 = (tl fr to m (fun v => v) n 0).countP (fun y => decide (y < x)) := by
  obtain ⟨c1, c2⟩ := cp_at (gT_sorted _ _ _) hx
  have hT := ((GD_mem hcu).mp hx).1
  obtain ⟨d1, d2⟩ := cp_at (tl_sorted m (fun v => v) n 0) hT
  have hlen := GD_len (fr := fr) (to := to) (pr := pr) (dm := dm) (co := co) (dg := dg) (n := n) (root := root) (dep := dep) (lod := lod) (rf := rf) (rt := rt) (wy := wy) hcu
  have c1' : (GD fr to pr dm co dg cu n m root dep lod rf rt wy).countP (fun y => decide (y < x)) < (XGood fr to pr dm co dg cu n m root dep lod rf rt wy).length := by rw [← hlen]; exact c1
  refine ⟨c1', srt_inj (tl_sorted m (fun v => v) n 0) (XG_lt c1') d1 ?_⟩
  rw [← GD_at hcu c1', d2]
  exact c2
theorem placeOfGood_ok {σ : St} (ha : WAll fr to pr dm co dg cu n m root dep lod rf rt wy) (hx : IvX fr to pr dm co dg cu n m root dep lod rf rt wy σ) (hd : XDone σ fr to pr dm co dg cu n m root dep lod rf rt wy) {N : Nat} (hN : 20 ≤ N) {x : Nat} (hx32 : x < 2 ^ 32) : GT_placeOfGood N (nI x) σ = some (if x ∈ GD fr to pr dm co dg cu n m root dep lod rf rt wy then nI ((tl fr to m (fun v => v) n 0).countP (fun y => decide (y < x))) else -1) := by
  have hcu := ha.2.2.1
  have hm14 := ha.1.2.2.1
  have h14 : 2 ^ m ≤ 2 ^ 14 := Nat.pow_le_pow_right (by decide) hm14
  have hcl := cmk_lt hm14 cu
  have hlen := hd.2.1.2.2.2.2.2.2
  unfold GT_placeOfGood
  rw [bnd_t (TL_placeOf_ok hd.2.1 N hx32)]
  by_cases hT : x ∈ tl fr to m (fun v => v) n 0
  · obtain ⟨d1, d2⟩ := cp_at (tl_sorted m (fun v => v) n 0) hT
    have hxl := (tl_isT hT).1
    rw [if_pos hT, if_neg (nI_m1 (by omega)), hx.2.2.1]
    by_cases hc : x &&& cmk m cu = 0
    · have hbr := GT_brokenAt_ok ha.1 hx.1 hx.2.1 ha.2.1 ha.2.2.2.1 hd.2.1 (fun t ht => tl_isT ht) hd.2.2.2.1 hN d1
      rw [d2] at hbr
      have b32 : bvl fr to pr dm co dg n m root dep lod rf rt wy x < 32 := brk_lt _ _ _ _ _ _ _ _ _ _ _ _
      rw [if_pos ((and_nI_zero (by omega) (by omega)).mpr hc), bnd_t hbr]
      by_cases hz : bvl fr to pr dm co dg n m root dep lod rf rt wy x = 0
      · rw [if_pos ((nI_z (by omega)).mpr hz), if_neg (by decide), if_pos ((GD_mem hcu).mpr ⟨hT, decide_eq_true hc, hz⟩)]
      · rw [if_neg (fun w => hz ((nI_z (by omega)).mp w)), if_pos rfl, if_neg (fun w => hz ((GD_mem hcu).mp w).2.2)]
    · rw [if_neg (fun w => hc ((and_nI_zero (by omega) (by omega)).mp w)), if_pos rfl, if_neg (fun w => hc (of_decide_eq_true ((GD_mem hcu).mp w).2.1))]
  · rw [if_neg hT, if_pos rfl, if_pos rfl, if_neg (fun w => hT ((GD_mem hcu).mp w).1)]
end GPL
