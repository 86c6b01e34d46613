/-! calls that set a limit -/
theorem lies_to {C : Nat} (hC : C < 2 ^ 29) (x : Int32) : M_lies x 0 (nI C) = 0 ∨ (∃ i, i ≤ C ∧ x = nI i ∧ M_lies x 0 (nI C) = 1) := by
  have e : nI (C + 1) - 1 = nI C := by rw [← nI_1, Int32.add_sub_cancel]
  have := lies_ix (K := C + 1) (by omega) x
  rw [e] at this
  rcases this with ⟨z, -⟩ | ⟨i, hi, h1, h2⟩
  · exact Or.inl z
  · exact Or.inr ⟨i, by omega, h1, h2⟩
theorem within_lies (x a b : Int32) : LT_within x a b = M_lies x a b := rfl
/-- the same in the net and the list, but not in the limits -/
def AgL (σ σ' : St) : Prop := (∀ k, k < 5 ∨ k = 15 ∨ k = 16 ∨ k = 17 → σ'.1 k = σ.1 k) ∧ (∀ k, k ≠ 5 → σ'.2.1 k = σ.2.1 k) ∧ σ'.2.2 = σ.2.2
section SLA
variable {fr to pr dm co dg cu : Nat → Nat} {n m root dep lod rf rt wy : Nat}
theorem AgL.nx {σ σ' : St} (h : AgL σ σ') (hx : NX σ n m root fr to pr dm) : NX σ' n m root fr to pr dm := by
  obtain ⟨x0, x1, x2, xe, xv⟩ := hx
  refine ⟨by rw [h.1 0 (by decide)]; exact x0, by rw [h.1 1 (by decide)]; exact x1, by rw [h.1 2 (by decide)]; exact x2, ?_, ?_⟩
  · rw [h.2.1 2 (by decide), h.2.1 3 (by decide), h.2.1 4 (by decide)]; exact xe
  · rw [h.2.1 0 (by decide), h.2.1 1 (by decide)]; exact xv
theorem AgL.pre {σ σ' : St} (h : AgL σ σ') (hp : XPre σ fr to pr dm n m root) : XPre σ' fr to pr dm n m root := by
  obtain ⟨L, K, a, b, ⟨a1, a2, a3, a4, a5⟩, d, e, f⟩ := hp
  refine ⟨L, K, a, by rw [h.1 16 (by decide)]; exact b, ⟨by rw [h.1 15 (by decide)]; exact a1, by rw [h.2.1 6 (by decide)]; exact a2, fun w hw => by rw [h.2.2]; exact a3 w hw, by rw [h.2.1 11 (by decide)]; exact a4, a5⟩, d, by rw [h.1 17 (by decide)]; exact e, fun i hi => ?_⟩
  rw [h.2.1 7 (by decide), h.2.1 8 (by decide), h.2.1 9 (by decide), h.2.1 10 (by decide)]
  exact f i hi
/-- a limit set anew, on both sides -/
theorem set_lim {σ τ σ' τ' : St} (ha : WAll fr to pr dm co dg cu n m root dep lod rf rt wy) (hx : IvX fr to pr dm co dg cu n m root dep lod rf rt wy σ) (hm : IvM fr to pr dm co dg cu n m root dep lod rf rt wy τ) (h : AgL σ σ') (h20 : σ'.1 20 = 0) {dg' : Nat → Nat} {dep' lod' rf' rt' wy' : Nat} (hl : LX σ' m co dg' dep' lod' rf' rt' wy') (hwl : WL dg' dep' lod' rf' rt' wy') (hn : NM τ' n m root fr to pr co cu dm) (hl' : LM τ' dg' dep' lod' rf' rt' wy') (h8 : τ'.1 8 = 0) : Inv σ' τ' :=
  ⟨fr, to, pr, dm, co, dg', cu, n, m, root, dep', lod', rf', rt', wy', ⟨ha.1, hwl, ha.2.2⟩, ⟨h.nx hx.1, hl, by rw [h.1 4 (by decide)]; exact hx.2.2.1, h.pre hx.2.2.2.1, Or.inl h20⟩, hn, hl', Or.inl h8⟩
theorem call_depth {σ τ : St} (hI : Inv σ τ) (x : Int32) : Both (some (LT_depth x σ)) (some (M_depth x τ)) := by
  have hI0 := hI
  obtain ⟨fr, to, pr, dm, co, dg, cu, n, m, root, dep, lod, rf, rt, wy, ha, hx, hm⟩ := hI
  unfold LT_depth M_depth GT_forget lt
  rw [within_lies, show (7 : Int32) = nI 7 from rfl]
  rcases lies_to (C := 7) (by decide) x with z | ⟨i, hi, rfl, z⟩
  · rw [z, if_pos rfl, if_pos rfl]
    exact ⟨_, _, _, rfl, rfl, hI0⟩
  · rw [z, if_neg (by decide), if_neg (by decide)]
    refine ⟨_, _, _, rfl, rfl, set_lim ha hx hm (dg' := dg) (dep' := i) (lod' := lod) (rf' := rf) (rt' := rt) (wy' := wy) ⟨fun k hk => ?_, fun _ _ => rfl, rfl⟩ (si_same _ _ _) ?_ ?_ ?_ ?_ (si_same _ _ _)⟩
    · rw [si_ne _ _ (by omega), si_ne _ _ (by omega)]
    · obtain ⟨l1, l2, l3, l4, l5, l6, l7, l8⟩ := hx.2.1
      exact ⟨l1, rfl, l3, l4, l5, l6, l7, l8⟩
    · obtain ⟨w1, w2, w3, w4, w5, w6⟩ := ha.2.1
      exact ⟨w1, hi, w3, w4, w5, w6⟩
    · exact hm.1
    · obtain ⟨l1, l2, l3, l4, l5, l6⟩ := hm.2.1
      exact ⟨rfl, l2, l3, l4, l5, l6⟩
theorem call_load {σ τ : St} (hI : Inv σ τ) (x : Int32) : Both (some (LT_load x σ)) (some (M_load x τ)) := by
  have hI0 := hI
  obtain ⟨fr, to, pr, dm, co, dg, cu, n, m, root, dep, lod, rf, rt, wy, ha, hx, hm⟩ := hI
  unfold LT_load M_load GT_forget lt
  rw [within_lies, show (9999 : Int32) = nI 9999 from rfl]
  rcases lies_to (C := 9999) (by decide) x with z | ⟨i, hi, rfl, z⟩
  · rw [z, if_pos rfl, if_pos rfl]
    exact ⟨_, _, _, rfl, rfl, hI0⟩
  · rw [z, if_neg (by decide), if_neg (by decide)]
    refine ⟨_, _, _, rfl, rfl, set_lim ha hx hm (dg' := dg) (dep' := dep) (lod' := i) (rf' := rf) (rt' := rt) (wy' := wy) ⟨fun k hk => ?_, fun _ _ => rfl, rfl⟩ (si_same _ _ _) ?_ ?_ ?_ ?_ (si_same _ _ _)⟩
    · rw [si_ne _ _ (by omega), si_ne _ _ (by omega)]
    · obtain ⟨l1, l2, l3, l4, l5, l6, l7, l8⟩ := hx.2.1
      exact ⟨l1, l2, rfl, l4, l5, l6, l7, l8⟩
    · obtain ⟨w1, w2, w3, w4, w5, w6⟩ := ha.2.1
      exact ⟨w1, w2, hi, w4, w5, w6⟩
    · exact hm.1
    · obtain ⟨l1, l2, l3, l4, l5, l6⟩ := hm.2.1
      exact ⟨l1, rfl, l3, l4, l5, l6⟩
theorem call_way {σ τ : St} (hI : Inv σ τ) (x : Int32) : Both (some (LT_way x σ)) (some (M_way x τ)) := by
  have hI0 := hI
  obtain ⟨fr, to, pr, dm, co, dg, cu, n, m, root, dep, lod, rf, rt, wy, ha, hx, hm⟩ := hI
  unfold LT_way M_way GT_forget lt
  rw [within_lies, show (9999 : Int32) = nI 9999 from rfl]
  rcases lies_to (C := 9999) (by decide) x with z | ⟨i, hi, rfl, z⟩
  · rw [z, if_pos rfl, if_pos rfl]
    exact ⟨_, _, _, rfl, rfl, hI0⟩
  · rw [z, if_neg (by decide), if_neg (by decide)]
    refine ⟨_, _, _, rfl, rfl, set_lim ha hx hm (dg' := dg) (dep' := dep) (lod' := lod) (rf' := rf) (rt' := rt) (wy' := i) ⟨fun k hk => ?_, fun _ _ => rfl, rfl⟩ (si_same _ _ _) ?_ ?_ ?_ ?_ (si_same _ _ _)⟩
    · rw [si_ne _ _ (by omega), si_ne _ _ (by omega)]
    · obtain ⟨l1, l2, l3, l4, l5, l6, l7, l8⟩ := hx.2.1
      exact ⟨l1, l2, l3, l4, l5, rfl, l7, l8⟩
    · obtain ⟨w1, w2, w3, w4, w5, w6⟩ := ha.2.1
      exact ⟨w1, w2, w3, w4, w5, hi⟩
    · exact hm.1
    · obtain ⟨l1, l2, l3, l4, l5, l6⟩ := hm.2.1
      exact ⟨l1, l2, l3, l4, rfl, l6⟩
theorem lies_from {a C : Nat} (ha : a ≤ C) (hC : C < 2 ^ 29) (x : Int32) : M_lies x (nI a) (nI C) = 0 ∨ (∃ i, i ≤ C ∧ x = nI i ∧ M_lies x (nI a) (nI C) = 1) := by
  by_cases h : x < nI a
  · left; unfold M_lies; rw [if_pos h]
  · have h1 := fa_of_nlt h
    have h0 : ¬ x < 0 := fun z => by
      rw [fa_le, nI_toInt (by omega)] at h1
      rw [fa_lt] at z
      have : ((0 : Int32).toInt) = 0 := by decide
      omega
    have e : M_lies x (nI a) (nI C) = M_lies x 0 (nI C) := by unfold M_lies; rw [if_neg h, if_neg h0]
    rw [e]
    exact lies_to hC x
theorem call_reds {σ τ : St} (hI : Inv σ τ) (x y : Int32) : Both (some (LT_reds x y σ)) (some (M_reds x y τ)) := by
  have hI0 := hI
  obtain ⟨fr, to, pr, dm, co, dg, cu, n, m, root, dep, lod, rf, rt, wy, ha, hx, hm⟩ := hI
  unfold LT_reds M_reds GT_forget lt
  rw [within_lies, within_lies, show (14 : Int32) = nI 14 from rfl]
  rcases lies_to (C := 14) (by decide) x with z | ⟨i, hi, rfl, z⟩
  · rw [z, if_pos rfl, if_pos rfl]
    exact ⟨_, _, _, rfl, rfl, hI0⟩
  · rw [z, if_neg (show ¬ (1 : Int32) = 0 by decide), if_neg (show ¬ (1 : Int32) = 0 by decide)]
    rcases lies_from hi (by decide) y with w | ⟨j, hj, rfl, w⟩
    · rw [w, if_pos rfl, if_pos rfl]
      exact ⟨_, _, _, rfl, rfl, hI0⟩
    · rw [w, if_neg (by decide), if_neg (by decide)]
      refine ⟨_, _, _, rfl, rfl, set_lim ha hx hm (dg' := dg) (dep' := dep) (lod' := lod) (rf' := i) (rt' := j) (wy' := wy) ⟨fun k hk => ?_, fun _ _ => rfl, rfl⟩ (si_same _ _ _) ?_ ?_ ?_ ?_ (si_same _ _ _)⟩
      · rw [si_ne _ _ (by omega), si_ne _ _ (by omega), si_ne _ _ (by omega)]
      · obtain ⟨l1, l2, l3, l4, l5, l6, l7, l8⟩ := hx.2.1
        exact ⟨l1, l2, l3, rfl, rfl, l6, l7, l8⟩
      · obtain ⟨w1, w2, w3, w4, w5, w6⟩ := ha.2.1
        exact ⟨w1, w2, w3, hi, hj, w6⟩
      · exact hm.1
      · obtain ⟨l1, l2, l3, l4, l5, l6⟩ := hm.2.1
        exact ⟨l1, l2, rfl, rfl, l5, l6⟩
end SLA
