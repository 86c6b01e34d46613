/-! calls that set a post's or a line's number -/
theorem has_ix {K : Nat} (hK : K < 2 ^ 30) (x : Int32) : ((if x < 0 then (0 : Int32) else if nI K ≤ x then 0 else 1) = 0 ∧ M_lies x 0 (nI K - 1) = 0 ∧ ∀ i, i < K → x ≠ nI i) ∨ (∃ i, i < K ∧ x = nI i ∧ (if x < 0 then (0 : Int32) else if nI K ≤ x then 0 else 1) = 1 ∧ M_lies x 0 (nI K - 1) = 1) := by
  rcases lies_ix hK x with ⟨h1, h2⟩ | ⟨i, hi, e, h⟩
  · left
    refine ⟨?_, h1, h2⟩
    by_cases h0 : x < 0
    · rw [if_pos h0]
    · rw [if_neg h0]
      have h3 : 0 ≤ x.toInt := by
        have := fa_of_nlt h0
        rw [fa_le] at this
        exact this
      have hx : x = nI x.toInt.toNat := by
        have hb := Int32.toInt_lt x
        rw [fa_eq, nI_toInt (by omega)]
        omega
      have hb := Int32.toInt_lt x
      have : ¬ x.toInt.toNat < K := fun z => h2 _ z hx
      rw [if_pos]
      rw [fa_le, nI_toInt (by omega)]
      omega
  · right
    refine ⟨i, hi, e, ?_, h⟩
    rw [e, if_neg (show ¬ nI i < 0 from fun z => by
      rw [fa_lt, nI_toInt (by omega)] at z
      have : ((0 : Int32).toInt) = 0 := by decide
      omega), if_neg (nI_ge hi (by omega))]
theorem clr8 : ∀ a, a < 256 → ∀ i, i < 8 → nI a &&& ((1 : Int32) <<< (nI i &&& 31) ^^^ (-1)) = nI (a &&& (255 ^^^ 2 ^ i)) := by decide +kernel
section SLB
variable {fr to pr dm co dg cu : Nat → Nat} {n m root dep lod rf rt wy : Nat}
theorem call_degree {σ τ : St} (hI : Inv σ τ) {N : Nat} (x y : Int32) : Both (LT_degree N x y σ) (M_degree N x y τ) := by
  have hI0 := hI
  obtain ⟨fr, to, pr, dm, co, dg, cu, n, m, root, dep, lod, rf, rt, wy, ha, hx, hm⟩ := hI
  have hn8 := ha.1.2.1
  unfold LT_degree M_degree Net_hasPost M_isPost
  rw [hx.1.1, hm.1.1, within_lies, show (14 : Int32) = nI 14 from rfl]
  rcases has_ix (show n < 2 ^ 30 by omega) x with ⟨z1, z2, -⟩ | ⟨i, hi, e, z1, z2⟩
  · rw [z1, z2, if_pos rfl, if_pos rfl]
    exact ⟨_, _, _, rfl, rfl, hI0⟩
  · rw [z1, z2, if_neg (show ¬ (1 : Int32) = 0 by decide), if_neg (show ¬ (1 : Int32) = 0 by decide)]
    subst e
    rcases lies_to (C := 14) (by decide) y with z | ⟨d, hd, rfl, z⟩
    · rw [z, if_pos rfl, if_pos rfl]
      exact ⟨_, _, _, rfl, rfl, hI0⟩
    · have gi : inb (nI i) 8 = true := inb_nI (by omega) (by decide)
      obtain ⟨l1, l2, l3, l4, l5, l6, l7, l8⟩ := hx.2.1
      obtain ⟨k1, k2, k3, k4, k5, k6⟩ := hm.2.1
      obtain ⟨w1, w2, w3, w4, w5, w6⟩ := ha.2.1
      have lm : mk 8 (fun v => decide (dg v < 7)) < 256 := mk_lt _ 8
      rw [z, if_neg (show ¬ (1 : Int32) = 0 by decide), if_neg (show ¬ (1 : Int32) = 0 by decide), grd_t gi, nI_clamp (by omega)]
      unfold Lim_setDegree GT_forget lt
      rw [grd_t gi, nI_clamp (by omega)]
      dsimp only
      have hdg : ∀ (A : Nat → Int32), A = upd (σ.2.1 5) i (nI d) → ∀ v, v < 8 → A v = nI (va_up dg i d v) := fun A hA v hv => by
        rw [hA]
        by_cases e : v = i
        · rw [e, upd_s, up_s]
        · rw [upd_n _ _ e, up_n _ _ e]; exact l8 v hv
      have hdg' : ∀ v, v < 8 → upd (τ.2.1 5) i (nI d) v = nI (va_up dg i d v) := fun v hv => by
        by_cases e : v = i
        · rw [e, upd_s, up_s]
        · rw [upd_n _ _ e, up_n _ _ e]; exact k6 v hv
      have hwl' : WL (va_up dg i d) dep lod rf rt wy := ⟨fun v hv => by
        by_cases e : v = i
        · rw [e, up_s]; exact hd
        · rw [up_n _ _ e]; exact w1 v hv, w2, w3, w4, w5, w6⟩
      have sidx : ∀ v : Nat, (va_up dg i d v) = if v = i then d else dg v := fun v => rfl
      by_cases h7 : 7 ≤ d
      · rw [if_pos (show (7 : Int32) ≤ nI d from nI_le (a := 7) h7 (by omega)), bnd_t rfl]
        refine ⟨_, _, _, rfl, rfl, set_lim ha hx hm (dg' := va_up dg i d) (dep' := dep) (lod' := lod) (rf' := rf) (rt' := rt) (wy' := wy) ⟨fun k hk => ?_, fun k hk => ?_, rfl⟩ (si_same _ _ _) ⟨l1, l2, l3, l4, l5, l6, ?_, hdg _ rfl⟩ hwl' ?_ ⟨k1, k2, k3, k4, k5, hdg'⟩ (si_same _ _ _)⟩
        · rw [si_ne _ _ (by omega), si_ne _ _ (by omega)]; rfl
        · show (sa σ 5 i (nI d)).2.1 k = _
          rw [sa_ne _ _ _ hk]
        · show σ.1 10 &&& _ = _
          rw [l7, clr8 _ lm i (by omega)]
          congr 1
          apply Nat.eq_of_testBit_eq
          intro j
          rw [Nat.testBit_and, Nat.testBit_xor, mk_bit, mk_bit, show (255 : Nat) = 2 ^ 8 - 1 from rfl, Nat.testBit_two_pow_sub_one, Nat.testBit_two_pow, sidx]
          by_cases hj : j < 8
          · by_cases e : j = i
            · subst e
              simp [hj, show ¬ d < 7 by omega]
            · simp [hj, e, Ne.symm e]
          · simp [hj]
        · exact hm.1
      · rw [if_neg (show ¬ (7 : Int32) ≤ nI d from nI_ge (b := 7) (by omega) (by decide)), bnd_t rfl]
        refine ⟨_, _, _, rfl, rfl, set_lim ha hx hm (dg' := va_up dg i d) (dep' := dep) (lod' := lod) (rf' := rf) (rt' := rt) (wy' := wy) ⟨fun k hk => ?_, fun k hk => ?_, rfl⟩ (si_same _ _ _) ⟨l1, l2, l3, l4, l5, l6, ?_, hdg _ rfl⟩ hwl' ?_ ⟨k1, k2, k3, k4, k5, hdg'⟩ (si_same _ _ _)⟩
        · rw [si_ne _ _ (by omega), si_ne _ _ (by omega)]; rfl
        · show (sa σ 5 i (nI d)).2.1 k = _
          rw [sa_ne _ _ _ hk]
        · show σ.1 10 ||| _ = _
          rw [l7, shl1 i (by omega), fa_or]
          congr 1
          apply Nat.eq_of_testBit_eq
          intro j
          rw [Nat.testBit_or, mk_bit, mk_bit, Nat.testBit_two_pow, sidx]
          by_cases hj : j < 8
          · by_cases e : j = i
            · subst e
              simp [hj, show d < 7 by omega]
            · simp [hj, e, Ne.symm e]
          · simp [hj]
            omega
        · exact hm.1
/-- the measures are forgotten: the list stays -/
theorem pre_forget {σ σ' : St} {root' : Nat} {pr' dm' : Nat → Nat} (hp : XPre σ fr to pr dm n m root) (h15 : σ'.1 15 = σ.1 15) (h16 : σ'.1 16 = σ.1 16) (h17 : σ'.1 17 = 0) (h6 : σ'.2.1 6 = σ.2.1 6) (h11 : σ'.2.1 11 = σ.2.1 11) (hL : σ'.2.2 = σ.2.2) : XPre σ' fr to pr' dm' n m root' := by
  obtain ⟨L, K, a, b, ⟨a1, a2, a3, a4, a5⟩, d, e, f⟩ := hp
  exact ⟨L, 0, a, by rw [h16]; exact b, ⟨by rw [h15]; exact a1, by rw [h6]; exact a2, fun w hw => by rw [hL]; exact a3 w hw, by rw [h11]; exact a4, a5⟩, Nat.zero_le _, h17, fun i hi => absurd hi (Nat.not_lt_zero i)⟩
theorem call_root {σ τ : St} (hI : Inv σ τ) (x : Int32) : Both (some (LT_root x σ)) (some (M_root x τ)) := by
  have hI0 := hI
  obtain ⟨fr, to, pr, dm, co, dg, cu, n, m, root, dep, lod, rf, rt, wy, ha, hx, hm⟩ := hI
  have hn8 := ha.1.2.1
  unfold LT_root M_root LT_forgetMeasures TL_forgetMeasures GT_forget Net_hasPost M_isPost lt
  rw [hx.1.1, hm.1.1]
  rcases has_ix (show n < 2 ^ 30 by omega) x with ⟨z1, z2, -⟩ | ⟨i, hi, e, z1, z2⟩
  · rw [z1, z2, if_pos rfl, if_pos rfl]
    exact ⟨_, _, _, rfl, rfl, hI0⟩
  · rw [z1, z2, if_neg (show ¬ (1 : Int32) = 0 by decide), if_neg (show ¬ (1 : Int32) = 0 by decide)]
    subst e
    obtain ⟨c1, c2, c3, c4, c5, c6⟩ := ha.1
    obtain ⟨x0, x1, x2, xe, xv⟩ := hx.1
    obtain ⟨y0, y1, y2, ye, yc, yv⟩ := hm.1
    exact ⟨_, _, _, rfl, rfl, fr, to, pr, dm, co, dg, cu, n, m, i, dep, lod, rf, rt, wy, ⟨⟨c1, c2, c3, hi, c5, c6⟩, ha.2⟩, ⟨⟨x0, rfl, x2, xe, xv⟩, hx.2.1, hx.2.2.1, pre_forget hx.2.2.2.1 rfl rfl rfl rfl rfl rfl, Or.inl rfl⟩, ⟨y0, y1, rfl, ye, yc, yv⟩, hm.2.1, Or.inl rfl⟩
theorem call_demand {σ τ : St} (hI : Inv σ τ) {N : Nat} (x y : Int32) : Both (LT_demand N x y σ) (M_demand N x y τ) := by
  have hI0 := hI
  obtain ⟨fr, to, pr, dm, co, dg, cu, n, m, root, dep, lod, rf, rt, wy, ha, hx, hm⟩ := hI
  have hn8 := ha.1.2.1
  unfold LT_demand M_demand LT_forgetMeasures TL_forgetMeasures GT_forget Net_hasPost M_isPost lt
  rw [hx.1.1, hm.1.1, within_lies, show (99 : Int32) = nI 99 from rfl]
  rcases has_ix (show n < 2 ^ 30 by omega) x with ⟨z1, z2, -⟩ | ⟨i, hi, e, z1, z2⟩
  · rw [z1, z2, if_pos rfl, if_pos rfl]
    exact ⟨_, _, _, rfl, rfl, hI0⟩
  · rw [z1, z2, if_neg (show ¬ (1 : Int32) = 0 by decide), if_neg (show ¬ (1 : Int32) = 0 by decide)]
    subst e
    rcases lies_to (C := 99) (by decide) y with z | ⟨d, hd, rfl, z⟩
    · rw [z, if_pos rfl, if_pos rfl]
      exact ⟨_, _, _, rfl, rfl, hI0⟩
    · have gi : inb (nI i) 8 = true := inb_nI (by omega) (by decide)
      rw [z, if_neg (show ¬ (1 : Int32) = 0 by decide), if_neg (show ¬ (1 : Int32) = 0 by decide), grd_t gi, grd_t gi, nI_clamp (by omega)]
      obtain ⟨c1, c2, c3, c4, c5, c6⟩ := ha.1
      obtain ⟨x0, x1, x2, xe, xv⟩ := hx.1
      obtain ⟨y0, y1, y2, ye, yc, yv⟩ := hm.1
      refine ⟨_, _, _, rfl, rfl, fr, to, pr, va_up dm i d, co, dg, cu, n, m, root, dep, lod, rf, rt, wy, ⟨⟨c1, c2, c3, c4, c5, fun v hv => ?_⟩, ha.2⟩, ⟨⟨x0, x1, x2, xe, fun v hv => ⟨?_, (xv v hv).2⟩⟩, hx.2.1, hx.2.2.1, pre_forget hx.2.2.2.1 rfl rfl rfl rfl rfl rfl, Or.inl rfl⟩, ⟨y0, y1, y2, ye, yc, fun v hv => ?_⟩, hm.2.1, Or.inl rfl⟩
      · by_cases e : v = i
        · rw [e, up_s]; exact hd
        · rw [up_n _ _ e]; exact c6 v hv
      · show upd (σ.2.1 0) i (nI d) v = _
        by_cases e : v = i
        · rw [e, upd_s, up_s]
        · rw [upd_n _ _ e, up_n _ _ e]; exact (xv v hv).1
      · show upd (τ.2.1 6) i (nI d) v = _
        by_cases e : v = i
        · rw [e, upd_s, up_s]
        · rw [upd_n _ _ e, up_n _ _ e]; exact yv v hv
theorem call_price {σ τ : St} (hI : Inv σ τ) {N : Nat} (x y : Int32) : Both (LT_price N x y σ) (M_price N x y τ) := by
  have hI0 := hI
  obtain ⟨fr, to, pr, dm, co, dg, cu, n, m, root, dep, lod, rf, rt, wy, ha, hx, hm⟩ := hI
  have hm14 := ha.1.2.2.1
  unfold LT_price M_price LT_forgetMeasures TL_forgetMeasures GT_forget Net_hasLine M_isLine lt
  rw [hx.1.2.2.1, hm.1.2.1, within_lies, show (999 : Int32) = nI 999 from rfl]
  rcases has_ix (show m < 2 ^ 30 by omega) x with ⟨z1, z2, -⟩ | ⟨i, hi, e, z1, z2⟩
  · rw [z1, z2, if_pos rfl, if_pos rfl]
    exact ⟨_, _, _, rfl, rfl, hI0⟩
  · rw [z1, z2, if_neg (show ¬ (1 : Int32) = 0 by decide), if_neg (show ¬ (1 : Int32) = 0 by decide)]
    subst e
    rcases lies_to (C := 999) (by decide) y with z | ⟨d, hd, rfl, z⟩
    · rw [z, if_pos rfl, if_pos rfl]
      exact ⟨_, _, _, rfl, rfl, hI0⟩
    · have gi : inb (nI i) 14 = true := inb_nI (by omega) (by decide)
      rw [z, if_neg (show ¬ (1 : Int32) = 0 by decide), if_neg (show ¬ (1 : Int32) = 0 by decide), grd_t gi, grd_t gi, nI_clamp (by omega)]
      obtain ⟨c1, c2, c3, c4, c5, c6⟩ := ha.1
      obtain ⟨x0, x1, x2, xe, xv⟩ := hx.1
      obtain ⟨y0, y1, y2, ye, yc, yv⟩ := hm.1
      refine ⟨_, _, _, rfl, rfl, fr, to, va_up pr i d, dm, co, dg, cu, n, m, root, dep, lod, rf, rt, wy, ⟨⟨c1, c2, c3, c4, fun e he => ⟨(c5 e he).1, (c5 e he).2.1, (c5 e he).2.2.1, ?_⟩, c6⟩, ha.2⟩, ⟨⟨x0, x1, x2, fun e he => ⟨(xe e he).1, (xe e he).2.1, ?_⟩, xv⟩, hx.2.1, hx.2.2.1, pre_forget hx.2.2.2.1 rfl rfl rfl rfl rfl rfl, Or.inl rfl⟩, ⟨y0, y1, y2, fun e he => ⟨(ye e he).1, (ye e he).2.1, ?_, (ye e he).2.2.2⟩, yc, yv⟩, hm.2.1, Or.inl rfl⟩
      · by_cases q : e = i
        · rw [q, up_s]; exact hd
        · rw [up_n _ _ q]; exact (c5 e he).2.2.2
      · show upd (σ.2.1 4) i (nI d) e = _
        by_cases q : e = i
        · rw [q, upd_s, up_s]
        · rw [upd_n _ _ q, up_n _ _ q]; exact (xe e he).2.2
      · show upd (τ.2.1 2) i (nI d) e = _
        by_cases q : e = i
        · rw [q, upd_s, up_s]
        · rw [upd_n _ _ q, up_n _ _ q]; exact (ye e he).2.2.1
end SLB
