/-! the reference: every tree's measures and breaks, in the class's numbers -/
section MMT
variable {n m root : Nat} {fr to pr dm co dg cu : Nat → Nat} {dep lod rf rt wy : Nat}
def mea (fr to pr dm co : Nat → Nat) (n m root x k : Nat) : Nat := if k = 0 then mP fr to pr m root x else if k = 1 then fmx (la fr to m x) n else if k = 2 then mD fr to pr m root x else if k = 3 then mL fr to pr dm m root x else if k = 4 then reds co m x else mW fr to pr m root x
theorem M_tree_all {τ : St} (hw : WN n m root fr to pr dm) (hx : NM τ n m root fr to pr co cu dm) (hcu : ∀ e, e < m → cu e ≤ 1) (hco : ∀ e, e < m → co e ≤ 1) (hwl : WL dg dep lod rf rt wy) {N x : Nat} (hN : 20 ≤ N) (hxm : x < 2 ^ m) :
    (isTr fr to cu n m x ∧ ∃ F S B, M_isTree N (nI x) τ = some (1, sq3 τ F S B) ∧ ∀ τ' : St, NM τ' n m root fr to pr co cu dm → (∀ k, k < 6 → M_measured N (nI x) (nI k) (sq3 τ' F S B) = some (nI (mea fr to pr dm co n m root x k))) ∧ (LM τ' dg dep lod rf rt wy → M_broken N (nI x) (sq3 τ' F S B) = some (nI (bvl fr to pr dm co dg n m root dep lod rf rt wy x)))) ∨ (¬ isTr fr to cu n m x ∧ ∃ F S B, M_isTree N (nI x) τ = some (0, sq3 τ F S B)) := by
  have hw0 := hw
  obtain ⟨hn2, hn8, hm, hroot, hE, hdm⟩ := hw
  have hE2 : ends fr to n m := fun e he => ⟨(hE e he).1, (hE e he).2.1⟩
  have hne : ∀ e, e < m → fr e ≠ to e := fun e he => (hE e he).2.2.1
  have hx14 : x < 2 ^ 14 := Nat.lt_of_lt_of_le hxm (Nat.pow_le_pow_right (by decide) hm)
  rcases M_isTree_ok hx hn8 (by omega) hm hroot hE2 hcu hN hxm with ⟨hT, q, e1, hbj, hq⟩ | h
  · left
    refine ⟨hT, iF q.1, q.2.1, q.2.2.1, e1, fun τ' hx' => ?_⟩
    obtain ⟨pe, pa, sN, bN, tp, t1, t2⟩ := TP_of hroot hm hn8 (fun e he => (hE e he).2.2.2) hbj (fun v hv => (hq v hv).1) (fun v hv => (hq v hv).2) hT.1
    have hF : ∀ v, v < n → iF q.1 v = nI (q.1 v - 1) := fun v hv => by
      show nI (q.1 v) - 1 = _
      rw [show (1 : Int32) = nI 1 from rfl, nI_sub (by have := (hq v hv).1; omega)]
    have m0 := M_sum0 hx' (N := N) hm hx14 (iF q.1) q.2.1 q.2.2.1 m 0 (by omega) N (by omega)
    have m4 := M_sum4 hx' (N := N) hm hx14 (iF q.1) q.2.1 q.2.2.1 m 0 (by omega) N (by omega)
    have m1 := M_max1 hx' hn8 hm hE2 hx14 (iF q.1) q.2.1 q.2.2.1 hN n 0 (by omega) N (by omega)
    have m2 := M_max2 hx' (N := N) hn8 (S := q.2.1) (B := q.2.2.1) hF (fun v hv => by have := (hq v hv).2; omega) n 0 (by omega) N (by omega)
    have m5 := M_max5 hx' (N := N) hn8 (F := iF q.1) (B := q.2.2.1) (fun v hv => (t1 v hv).1) (fun v hv => by have := (t1 v hv).2; omega) n 0 (by omega) N (by omega)
    have m3 := M_max3 hx' hn8 hm hroot hdm (F := iF q.1) (S := q.2.1) hbj.1.2.2 t2 hN
    have k0 : M_measured N (nI x) 0 (sq3 τ' (iF q.1) q.2.1 q.2.2.1) = some (nI (mP fr to pr m root x)) := by
      unfold mP
      rw [price_sum tp hne hn8]
      exact m0
    have k1 : M_measured N (nI x) 1 (sq3 τ' (iF q.1) q.2.1 q.2.2.1) = some (nI (fmx (la fr to m x) n)) := m1
    have k2 : M_measured N (nI x) 2 (sq3 τ' (iF q.1) q.2.1 q.2.2.1) = some (nI (mD fr to pr m root x)) := by
      unfold mD
      rw [depth_max tp hne hn8]
      exact m2
    have k3 : M_measured N (nI x) 3 (sq3 τ' (iF q.1) q.2.1 q.2.2.1) = some (nI (mL fr to pr dm m root x)) := by
      rw [(load_max tp hne hn8 dm).1]
      exact m3
    have k4 : M_measured N (nI x) 4 (sq3 τ' (iF q.1) q.2.1 q.2.2.1) = some (nI (reds co m x)) := m4
    have k5 : M_measured N (nI x) 5 (sq3 τ' (iF q.1) q.2.1 q.2.2.1) = some (nI (mW fr to pr m root x)) := by
      unfold mW
      rw [way_max tp hne hn8]
      exact m5
    refine ⟨fun k hk => ?_, fun hl => ?_⟩
    · match k, hk with
      | 0, _ => exact k0
      | 1, _ => exact k1
      | 2, _ => exact k2
      | 3, _ => exact k3
      | 4, _ => exact k4
      | 5, _ => exact k5
    · obtain ⟨c1, c2, c3, c4⟩ := meas_cap hw0 ⟨hxm, hT.1, hT.2.2⟩
      have c5 : reds co m x ≤ pck m x * 1 := sum_le_ct x hco
      have := hT.1
      exact M_broken_ok hx' hl hwl hn8 hm hE2 hN hx14 k2 k3 k4 k5 (by omega) (by omega) (by omega) (by omega)
  · exact Or.inr h
end MMT
theorem sq3_sa (τ : St) (F S B : Nat → Int32) {k : Nat} (i : Nat) (v : Int32) (h : 9 < k) : sa (sq3 τ F S B) k i v = sq3 (sa τ k i v) F S B := by
  unfold sa sA sq3 va_up
  refine Prod.ext rfl (Prod.ext (funext fun j => ?_) rfl)
  dsimp only
  by_cases e : j = k
  · subst e
    simp [show ¬ j = 7 by omega, show ¬ j = 8 by omega, show ¬ j = 9 by omega, show j ≠ 7 by omega, show j ≠ 8 by omega, show j ≠ 9 by omega]
  · simp [e]
theorem sq3_si (τ : St) (F S B : Nat → Int32) (k : Nat) (v : Int32) : si (sq3 τ F S B) k v = sq3 (si τ k v) F S B := rfl
theorem sq3_sq3 (τ : St) (F S B F' S' B' : Nat → Int32) : sq3 (sq3 τ F S B) F' S' B' = sq3 τ F' S' B' := by
  unfold sq3
  refine Prod.ext rfl (Prod.ext (funext fun j => ?_) rfl)
  dsimp only
  by_cases h : j = 7
  · simp [h]
  · by_cases h2 : j = 8
    · simp [h2]
    · by_cases h3 : j = 9
      · simp [h3]
      · simp [h, h2, h3]
theorem sq3_arr (τ : St) (F S B : Nat → Int32) {k : Nat} (h : 9 < k) : (sq3 τ F S B).2.1 k = τ.2.1 k := by
  unfold sq3
  simp [show ¬ k = 7 by omega, show ¬ k = 8 by omega, show ¬ k = 9 by omega, show k ≠ 7 by omega, show k ≠ 8 by omega, show k ≠ 9 by omega]
