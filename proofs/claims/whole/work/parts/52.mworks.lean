/-! the reference's work, done or kept -/
section MWO
variable {n m root : Nat} {fr to pr dm co dg cu : Nat → Nat} {dep lod rf rt wy : Nat}
/-- all that the reference has worked out -/
def MDone (τ : St) (fr to pr dm co dg cu : Nat → Nat) (n m root dep lod rf rt wy : Nat) : Prop := MWR τ (tb fr to cu n m) (bvl fr to pr dm co dg n m root dep lod rf rt wy) (mP fr to pr m root) (mW fr to pr m root) (2 ^ m) ∧ MOR τ (gT (tb fr to cu n m) (bvl fr to pr dm co dg n m root dep lod rf rt wy) (2 ^ m)).length (fun i => mP fr to pr m root ((gT (tb fr to cu n m) (bvl fr to pr dm co dg n m root dep lod rf rt wy) (2 ^ m)).getD i 0))
theorem uT_cap (hw : WN n m root fr to pr dm) (hcu : ∀ e, e < m → cu e ≤ 1) : (uT (tb fr to cu n m) (2 ^ m)).length ≤ 1280 := by
  rw [uT_eq hcu]
  exact Nat.le_trans (List.length_filter_le _ _) (most hw.1 hw.2.1 hw.2.2.1 (fun e he => ⟨(hw.2.2.2.2.1 e he).1, (hw.2.2.2.2.1 e he).2.1, (hw.2.2.2.2.1 e he).2.2.1⟩))
theorem getD_mem {G : List Nat} {i : Nat} (h : i < G.length) : G.getD i 0 ∈ G := by
  rw [List.getD_eq_getElem?_getD, List.getElem?_eq_getElem h]
  exact List.getElem_mem _
theorem gT_isT {bv : Nat → Nat} {x : Nat} (h : x ∈ gT (tb fr to cu n m) bv (2 ^ m)) : isT fr to n m x := by
  have h1 := gT_lt h
  have h2 := (List.mem_filter.mp (List.mem_filter.mp h).1).2
  unfold tb at h2
  rw [Bool.and_eq_true, Bool.and_eq_true, decide_eq_true_eq] at h2
  exact ⟨h1, h2.1.1, h2.2⟩
theorem M_works_ok (hw : WN n m root fr to pr dm) (hcu : ∀ e, e < m → cu e ≤ 1) (hco : ∀ e, e < m → co e ≤ 1) (hwl : WL dg dep lod rf rt wy) {N : Nat} (hN : 20000 ≤ N) {τ : St} (hx : NM τ n m root fr to pr co cu dm) (hl : LM τ dg dep lod rf rt wy) (h8 : τ.1 8 = 0 ∨ (τ.1 8 = 1 ∧ MDone τ fr to pr dm co dg cu n m root dep lod rf rt wy)) : ∃ τ', M_works N τ = some τ' ∧ τ'.1 8 = 1 ∧ MDone τ' fr to pr dm co dg cu n m root dep lod rf rt wy ∧ FrW τ τ' := by
  unfold M_works
  rcases h8 with h8 | ⟨h8, hd⟩
  · rw [h8, if_pos rfl]
    unfold lt
    have f0 := ((si_fr τ 1 (show 7 < 8 by decide)).trans (si_fr _ 0 (show 7 < 9 by decide))).trans (si_fr _ 0 (show 7 < 10 by decide))
    have h14 : 2 ^ m ≤ 2 ^ 14 := Nat.pow_le_pow_right (by decide) hw.2.2.1
    obtain ⟨τ1, a1, a2, a3, a4⟩ := M_works_loop hw hcu hco hwl (show 20 ≤ N by omega) (M_works_155 N) (2 ^ m) 0 (by omega) N (by omega) (si (si (si τ 8 1) 9 0) 10 0) (f0.net hx) (f0.lim hl) ⟨rfl, rfl, fun i hi => absurd hi (Nat.not_lt_zero i), fun i hi => absurd hi (Nat.not_lt_zero i), fun x hx => absurd hx (Nat.not_lt_zero x)⟩
    dsimp only
    refine (show (∃ τ', M_works_25 N (M_works_155 N) N (nI 0) (si (si (si τ 8 1) 9 0) 10 0) = some τ' ∧ τ'.1 8 = 1 ∧ MDone τ' fr to pr dm co dg cu n m root dep lod rf rt wy ∧ FrW τ τ') from ?_)
    rw [a1]
    unfold M_works_155
    have hcap := uT_cap hw hcu
    obtain ⟨τ2, b1, b2, b3, b4⟩ := M_sorts_ok (Nat.le_trans (gT_len _ _ _) hcap) a2.2.1 (d := fun i => mP fr to pr m root ((gT (tb fr to cu n m) (bvl fr to pr dm co dg n m root dep lod rf rt wy) (2 ^ m)).getD i 0)) (fun i hi => ⟨(a2.2.2.2.1 i hi).2.1, by have := (meas_cap hw (gT_isT (getD_mem hi))).1; omega⟩) (show 7100 ≤ N by omega)
    rw [bnd_t b1]
    refine ⟨τ2, rfl, by rw [b3, a4]; rfl, ⟨?_, b2⟩, (f0.trans a3).trans ⟨fun k _ => by rw [b3], fun k hk => b4 k (by omega) (by omega)⟩⟩
    obtain ⟨c1, c2, c3, c4, c5⟩ := a2
    refine ⟨by rw [b3]; exact c1, by rw [b3]; exact c2, by rw [b4 10 (by decide) (by decide)]; exact c3, ?_, by rw [b4 14 (by decide) (by decide)]; exact c5⟩
    rw [b4 11 (by decide) (by decide), b4 12 (by decide) (by decide), b4 13 (by decide) (by decide)]
    exact c4
  · rw [h8, if_neg (by decide)]
    exact ⟨τ, rfl, h8, hd, fun _ _ => rfl, fun _ _ => rfl⟩
end MWO
