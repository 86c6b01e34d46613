/-! the call for a measure of a tree -/
section MSU
variable {fr to pr dm co dg cu : Nat → Nat} {n m root dep lod rf rt wy : Nat}
theorem Net_most_ok {σ : St} (hx : NX σ n m root fr to pr dm) (hn : n ≤ 8) (hm : m ≤ 14) {N : Nat} (hN : 20 ≤ N) (x : Nat) (hx14 : pck m x ≤ 7) : Net_mostLinesAtAPost N (nI x) σ = some (nI (fmx (la fr to m x) n)) := by
  have loop : ∀ (d v : Nat), v + d = n → ∀ fuel, d < fuel → Net_mostLinesAtAPost_4 N fuel (nI x) (nI (fmx (la fr to m x) v)) (nI v) σ = some (nI (fmx (la fr to m x) n)) := by
    intro d
    induction d with
    | zero =>
      intro v hv fuel hf
      obtain ⟨fuel, rfl⟩ : ∃ z, fuel = z + 1 := ⟨fuel - 1, by omega⟩
      rw [Net_mostLinesAtAPost_4_s, hx.1, if_pos (nI_le (by omega) (by omega)), show v = n by omega]
    | succ d ih =>
      intro v hv fuel hf
      obtain ⟨fuel, rfl⟩ : ∃ z, fuel = z + 1 := ⟨fuel - 1, by omega⟩
      have h1 := la_le fr to m x v
      have h2 : fmx (la fr to m x) v ≤ 7 := fmx_le (fun w _ => by have := la_le fr to m x w; omega)
      rw [Net_mostLinesAtAPost_4_s, hx.1, if_neg (nI_ge (by omega) (by omega)), grd_t (inb_nI (by omega) (by decide)), nI_clamp (by omega), (hx.2.2.2.2 v (by omega)).2, bc_at hm, imax_nI (by omega) (by omega), ← fmx_succ, nI_1]
      unfold lt
      exact ih (v + 1) (by omega) fuel (by omega)
  unfold Net_mostLinesAtAPost
  exact loop n 0 (by omega) N (by omega)
theorem call_measure {σ τ : St} (hI : Inv σ τ) {N : Nat} (hN : 20000 ≤ N) (x y : Int32) : Both (LT_measure N x y σ) (M_measure N x y τ) := by
  have hI0 := hI
  obtain ⟨fr, to, pr, dm, co, dg, cu, n, m, root, dep, lod, rf, rt, wy, ha, hx, hm⟩ := hI
  have hn8 := ha.1.2.1
  unfold LT_measure M_measure
  rcases hasLines_ix ha hx hm x with ⟨z1, z2⟩ | ⟨i, hi, e, z1, z2⟩
  · have e0 : LT_isTree N x σ = some (0, σ) := by unfold LT_isTree; rw [z1, if_pos rfl]
    rw [z2, if_pos rfl, e0]
    exact ⟨-1, σ, τ, rfl, rfl, hI0⟩
  · rw [z2, if_neg (show ¬ (1 : Int32) = 0 by decide)]
    subst e
    unfold bnd2
    have hy := lies_to (C := 5) (by decide) y
    rw [show (5 : Int32) = nI 5 from rfl]
    rcases isTree_x ha hx (show 20 ≤ N by omega) hi with ⟨t, σ', a1, a2⟩ | ⟨t, σ', a1, a2⟩
    · have hiT : isT fr to n m i := ⟨hi, t.1, t.2.2⟩
      have hwk := Sh_walk_ok ha.1 a2.1 (show 20 ≤ N by omega) hi (load_cap ha.1 hi t.1 t.2.2)
      have hwx := walk_inv a2 (fP pr 0 (rW fr to pr m root i)) (fD 0 (rW fr to pr m root i)) (mL fr to pr dm m root i) (fW 0 (rW fr to pr m root i))
      rw [a1]
      dsimp only
      rw [if_neg (show ¬ (1 : Int32) = 0 by decide), bnd_t hwk]
      rcases hy with z | ⟨k, hk, rfl, z⟩
      · have ny : ∀ k, k ≤ 5 → y ≠ nI k := fun k hk e => by
          rw [e] at z
          unfold M_lies at z
          rw [if_neg (show ¬ nI k < 0 from fun w => by
            rw [fa_lt, nI_toInt (by omega)] at w
            have : ((0 : Int32).toInt) = 0 := by decide
            omega), if_neg (fun w => by
            rw [fa_lt, nI_toInt (by omega), nI_toInt (by omega)] at w
            omega)] at z
          exact absurd z (by decide)
        rw [z, if_pos rfl, if_neg (show ¬ y = 0 from ny 0 (by decide)), if_neg (show ¬ y = 1 from ny 1 (by decide)), if_neg (show ¬ y = 2 from ny 2 (by decide)), if_neg (show ¬ y = 3 from ny 3 (by decide)), if_neg (show ¬ y = 4 from ny 4 (by decide)), if_neg (show ¬ y = nI 5 from ny 5 (by decide))]
        exact ⟨_, _, _, rfl, rfl, _, _, _, _, _, _, _, _, _, _, _, _, _, _, _, ha, hwx, hm⟩
      · rcases M_tree_all ha.1 hm.1 ha.2.2.1 ha.2.2.2.1 ha.2.1 (show 20 ≤ N by omega) hi with ⟨u, F, S, B, b1, b2⟩ | ⟨u, F, S, B, b1⟩
        · have hme := (b2 τ hm.1).1 k (by omega)
          have hfin : Inv (wkS σ' (fP pr 0 (rW fr to pr m root i)) (fD 0 (rW fr to pr m root i)) (mL fr to pr dm m root i) (fW 0 (rW fr to pr m root i))) (sq3 τ F S B) := ⟨_, _, _, _, _, _, _, _, _, _, _, _, _, _, _, ha, hwx, IvM_sq3 hm F S B⟩
          rw [z, if_neg (show ¬ (1 : Int32) = 0 by decide), b1]
          dsimp only
          rw [if_neg (show ¬ (1 : Int32) = 0 by decide), bnd_t hme]
          match k, hk with
          | 0, _ => exact ⟨_, _, _, rfl, rfl, hfin⟩
          | 1, _ =>
            rw [if_neg (show ¬ nI 1 = 0 by decide), if_pos (show nI 1 = 1 from rfl), bnd_t (Net_most_ok hwx.1 hn8 ha.1.2.2.1 (show 20 ≤ N by omega) i (by have := t.1; omega))]
            exact ⟨_, _, _, rfl, rfl, hfin⟩
          | 2, _ => exact ⟨_, _, _, rfl, rfl, hfin⟩
          | 3, _ => exact ⟨_, _, _, rfl, rfl, hfin⟩
          | 4, _ =>
            rw [if_neg (show ¬ nI 4 = 0 by decide), if_neg (show ¬ nI 4 = 1 by decide), if_neg (show ¬ nI 4 = 2 by decide), if_neg (show ¬ nI 4 = 3 by decide), if_pos (show nI 4 = 4 from rfl)]
            refine ⟨_, _, _, rfl, ?_, hfin⟩
            unfold Net_redsIn
            rw [hwx.2.1.1, bc_red ha.1.2.2.1 ha.2.2.2.1]
            rfl
          | 5, _ => exact ⟨_, _, _, rfl, rfl, hfin⟩
        · exact absurd t u
    · rw [a1]
      dsimp only
      rw [if_pos rfl]
      rcases hy with z | ⟨k, hk, rfl, z⟩
      · rw [z, if_pos rfl]
        exact ⟨_, _, _, rfl, rfl, _, _, _, _, _, _, _, _, _, _, _, _, _, _, _, ha, a2, hm⟩
      · rcases M_tree_all ha.1 hm.1 ha.2.2.1 ha.2.2.2.1 ha.2.1 (show 20 ≤ N by omega) hi with ⟨u, F, S, B, b1, b2⟩ | ⟨u, F, S, B, b1⟩
        · exact absurd u t
        · rw [z, if_neg (show ¬ (1 : Int32) = 0 by decide), b1]
          exact ⟨-1, σ', sq3 τ F S B, rfl, rfl, _, _, _, _, _, _, _, _, _, _, _, _, _, _, _, ha, a2, IvM_sq3 hm F S B⟩
end MSU
