/-! the reference's number of a good tree -/
section GOF
variable {fr to pr dm co dg cu : Nat → Nat} {n m root dep lod rf rt wy : Nat}
theorem goodOf_ok {τ : St} (ha : WAll fr to pr dm co dg cu n m root dep lod rf rt wy) (hm : IvM fr to pr dm co dg cu n m root dep lod rf rt wy τ) {N : Nat} (hN : 20000 ≤ N) {z : Nat} (hz : z < 2 ^ 32) : ∃ τ', M_goodOf N (nI z) τ = some (if z ∈ GD fr to pr dm co dg cu n m root dep lod rf rt wy then nI ((GD fr to pr dm co dg cu n m root dep lod rf rt wy).countP (fun y => decide (y < z))) else -1, τ') ∧ IvM fr to pr dm co dg cu n m root dep lod rf rt wy τ' ∧ τ'.1 8 = 1 ∧ MDone τ' fr to pr dm co dg cu n m root dep lod rf rt wy ∧ (τ.1 8 = 1 → τ' = τ) := by
  have hm14 := ha.1.2.2.1
  have h14 : 2 ^ m ≤ 2 ^ 14 := Nat.pow_le_pow_right (by decide) hm14
  obtain ⟨τ', b1, b2, b3, b4, b5⟩ := judge_m ha hm hN
  refine ⟨τ', ?_, b2, b3, b4, fun h8 => ?_⟩
  · unfold M_goodOf M_isSet
    rw [bnd_t b1, b2.1.2.1, shl32 m (by omega)]
    rcases lies_ix (show 2 ^ m < 2 ^ 30 by omega) (nI z) with ⟨h1, h2⟩ | ⟨i, hi, e, h1⟩
    · rw [h1, if_pos rfl, if_neg (show ¬ z ∈ GD fr to pr dm co dg cu n m root dep lod rf rt wy from fun w => h2 z (gT_lt w) rfl)]
    · have ez : z = i := by
        have h3 : (nI z).toBitVec.toNat = (nI i).toBitVec.toNat := by rw [e]
        have h4 : (nI z).toBitVec.toNat = z % 2 ^ 32 := BitVec.toNat_ofNat ..
        have h5 : (nI i).toBitVec.toNat = i % 2 ^ 32 := BitVec.toNat_ofNat ..
        omega
      subst ez
      rw [h1, if_neg (show ¬ (1 : Int32) = 0 by decide), grd_t (inb_nI (by omega) (by decide)), nI_clamp (by omega), b4.1.2.2.2.2 z hi]
      rfl
  · unfold M_works at b1
    rw [h8, if_neg (by decide)] at b1
    exact (Option.some.inj b1).symm
end GOF
