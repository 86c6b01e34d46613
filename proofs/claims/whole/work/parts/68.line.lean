/-! the call that adds a line -/
theorem line32_0 (N : Nat) (a b c d : Int32) (σ : St) : LT_line_32 N a b c d 0 σ = some (-1, σ) := by
  unfold LT_line_32 LT_line_60
  split
  · exact if_pos rfl
  · split
    · exact if_pos rfl
    · exact if_pos rfl
theorem line60_0 (N : Nat) (a b c d t : Int32) (σ : St) : LT_line_60 N a b c d t 0 σ = some (-1, σ) := by
  unfold LT_line_60
  split
  · rfl
  · exact if_pos rfl
theorem atm_up {fr to : Nat → Nat} {m a b v : Nat} : atm (va_up fr m a) (va_up to m b) (m + 1) v = atm fr to m v ||| (if v = a ∨ v = b then 2 ^ m else 0) := by
  unfold atm
  apply Nat.eq_of_testBit_eq
  intro e
  rw [Nat.testBit_or, mk_bit, mk_bit, show va_up fr m a e = if e = m then a else fr e from rfl, show va_up to m b e = if e = m then b else to e from rfl]
  by_cases h : e = m
  · subst h
    by_cases hv : v = a ∨ v = b
    · rw [if_pos hv, Nat.testBit_two_pow]
      rcases hv with z | z <;> simp [z]
    · rw [if_neg hv, Nat.zero_testBit]
      have h1 : ¬ a = v := fun z => hv (Or.inl z.symm)
      have h2 : ¬ b = v := fun z => hv (Or.inr z.symm)
      simp [h1, h2]
  · have e1 : decide (e < m + 1) = decide (e < m) := by rw [decide_eq_decide]; omega
    have e2 : (if v = a ∨ v = b then 2 ^ m else 0 : Nat).testBit e = false := by
      split
      · rw [Nat.testBit_two_pow]; simp [Ne.symm h]
      · exact Nat.zero_testBit e
    rw [if_neg h, if_neg h, e1, e2, Bool.or_false]
theorem cmk_up {cu : Nat → Nat} {m : Nat} (h : cu m = 0) : cmk (m + 1) cu = cmk m cu := by
  unfold cmk
  apply Nat.eq_of_testBit_eq
  intro e
  rw [mk_bit, mk_bit]
  by_cases z : e = m
  · subst z; simp [h]
  · have e1 : decide (e < m + 1) = decide (e < m) := by rw [decide_eq_decide]; omega
    rw [e1]
theorem red_up {co : Nat → Nat} {m q : Nat} (hq : q ≤ 1) : mk (m + 1) (fun e => decide (va_up co m q e = 1)) = mk m (fun e => decide (co e = 1)) ||| (if q = 1 then 2 ^ m else 0) := by
  apply Nat.eq_of_testBit_eq
  intro e
  rw [Nat.testBit_or, mk_bit, mk_bit, show va_up co m q e = if e = m then q else co e from rfl]
  by_cases h : e = m
  · subst h
    by_cases z : q = 1
    · rw [if_pos z, Nat.testBit_two_pow]; simp [z]
    · rw [if_neg z]; simp [z]
  · have e1 : decide (e < m + 1) = decide (e < m) := by rw [decide_eq_decide]; omega
    have e2 : (if q = 1 then 2 ^ m else 0 : Nat).testBit e = false := by
      split
      · rw [Nat.testBit_two_pow]; simp [Ne.symm h]
      · exact Nat.zero_testBit e
    rw [if_neg h, e1, e2, Bool.or_false]
theorem shlq {q m : Nat} (hq : q ≤ 1) (hm : m < 31) : nI q <<< (nI m &&& 31) = nI (if q = 1 then 2 ^ m else 0) := by
  by_cases z : q = 1
  · rw [z, if_pos rfl]; exact shl1 m hm
  · rw [show q = 0 by omega, if_neg (by decide)]
    have : ∀ k, k < 31 → nI 0 <<< (nI k &&& 31) = nI 0 := by decide +kernel
    exact this m hm
theorem call_line {σ τ : St} (hI : Inv σ τ) {N : Nat} (x1 x2 x3 x4 : Int32) : Both (LT_line N x1 x2 x3 x4 σ) (M_line N x1 x2 x3 x4 τ) := by
  have hI0 := hI
  obtain ⟨fr, to, pr, dm, co, dg, cu, n, m, root, dep, lod, rf, rt, wy, ha, hx, hm⟩ := hI
  have hn8 := ha.1.2.1
  have hm14 := ha.1.2.2.1
  have m14 : (nI m = 14) ↔ m = 14 := nI_eq (b := 14) (by omega) (by decide)
  have hP : ∀ y, Net_hasPost y σ = if y < 0 then (0 : Int32) else if nI n ≤ y then 0 else 1 := fun y => by unfold Net_hasPost; rw [hx.1.1]
  have hQ : ∀ y, M_isPost y τ = M_lies y 0 (nI n - 1) := fun y => by unfold M_isPost; rw [hm.1.1]
  unfold LT_line M_line
  rw [hP, hP, hQ, hQ, hm.1.2.1]
  rcases has_ix (show n < 2 ^ 30 by omega) x1 with ⟨z1, z2, -⟩ | ⟨a, ha1, ea, z1, z2⟩
  · rw [z1, if_pos rfl, line32_0, z2, if_pos rfl, ite_self]
    exact ⟨_, _, _, rfl, rfl, hI0⟩
  rw [z1, z2, if_neg (show ¬ (1 : Int32) = 0 by decide), if_neg (show ¬ (1 : Int32) = 0 by decide)]
  rcases has_ix (show n < 2 ^ 30 by omega) x2 with ⟨w1, w2, -⟩ | ⟨b, hb1, eb, w1, w2⟩
  · rw [w1, if_pos rfl, line32_0, w2, if_pos rfl, ite_self]
    exact ⟨_, _, _, rfl, rfl, hI0⟩
  rw [w1, w2, if_neg (show ¬ (1 : Int32) = 0 by decide), if_neg (show ¬ (1 : Int32) = 0 by decide)]
  by_cases hab : x1 = x2
  · rw [if_pos hab, line32_0, if_pos hab, ite_self]
    exact ⟨_, _, _, rfl, rfl, hI0⟩
  rw [if_neg hab, if_neg hab]
  unfold LT_line_32
  rw [within_lies, within_lies, show (999 : Int32) = nI 999 from rfl]
  rcases lies_to (C := 999) (by decide) x3 with z3 | ⟨p, hp, e3, z3⟩
  · rw [z3, if_pos rfl, line60_0, if_pos rfl, ite_self]
    exact ⟨_, _, _, rfl, rfl, hI0⟩
  rw [z3, if_neg (show ¬ (1 : Int32) = 0 by decide), if_neg (show ¬ (1 : Int32) = 0 by decide)]
  have h1 : (1 : Int32) = nI 1 := rfl
  rcases lies_to (C := 1) (by decide) x4 with z4 | ⟨q, hq, e4, z4⟩
  · have z4' : M_lies x4 0 1 = 0 := z4
    rw [z4', if_pos rfl, line60_0, if_pos rfl, ite_self]
    exact ⟨_, _, _, rfl, rfl, hI0⟩
  have z4' : M_lies x4 0 1 = 1 := z4
  rw [z4', if_neg (show ¬ (1 : Int32) = 0 by decide), if_neg (show ¬ (1 : Int32) = 0 by decide)]
  unfold LT_line_60
  rw [if_neg (show ¬ (1 : Int32) = 0 by decide), if_neg (show ¬ (1 : Int32) = 0 by decide), hx.1.2.2.1]
  by_cases hfull : m = 14
  · rw [if_neg (show ¬ nI m < 14 by rw [hfull]; decide), if_pos (m14.mpr hfull)]
    exact ⟨_, _, _, rfl, rfl, hI0⟩
  rw [if_pos (show nI m < 14 from nI_lt (b := 14) (by omega) (by decide)), if_neg (fun w => hfull (m14.mp w))]
  subst ea eb e3 e4
  have hne : a ≠ b := fun w => hab (by rw [w])
  have gm : inb (nI m) 14 = true := inb_nI (by omega) (by decide)
  have ga : inb (nI a) 8 = true := inb_nI (by omega) (by decide)
  have gb : inb (nI b) 8 = true := inb_nI (by omega) (by decide)
  have cm : (nI m).toNatClampNeg = m := nI_clamp (by omega)
  have ca : (nI a).toNatClampNeg = a := nI_clamp (by omega)
  have cb : (nI b).toNatClampNeg = b := nI_clamp (by omega)
  have e2 : (si σ 20 0).1 2 = nI m := by rw [si_ne _ _ (by decide)]; exact hx.1.2.2.1
  unfold GT_forget Net_addLine lt
  dsimp only
  rw [e2, grd_t gm, grd_t gm, grd_t gm, grd_t ga, grd_t ga, grd_t gb, grd_t gb, cm, ca, cb]
  simp only [sa_i, hm.1.2.1]
  rw [grd_t gm, grd_t gm, grd_t gm, grd_t gm]
  obtain ⟨c1, c2, c3, c4, c5, c6⟩ := ha.1
  obtain ⟨x0, xr, xl, xe, xv⟩ := hx.1
  obtain ⟨l1, l2, l3, l4, l5, l6, l7, l8⟩ := hx.2.1
  obtain ⟨y0, y1, y2, ye, yc, yv⟩ := hm.1
  have cz : cu m = 0 := ha.2.2.2.2 m (Nat.le_refl m)
  have up_lt : ∀ (f : Nat → Nat) (v e : Nat), e < m → va_up f m v e = f e := fun f v e he => up_n _ _ (by omega)
  refine ⟨nI m, _, si (si (sa (sa (sa (sa τ 0 m (nI a)) 1 m (nI b)) 2 m (nI p)) 3 m (nI q)) 1 (nI m + 1)) 8 0, rfl, ?_, va_up fr m a, va_up to m b, va_up pr m p, dm, va_up co m q, dg, cu, n, m + 1, root, dep, lod, rf, rt, wy, ⟨⟨c1, c2, by omega, c4, fun e he => ?_, c6⟩, ha.2.1, fun e he => ?_, fun e he => ?_, fun e he => ha.2.2.2.2 e (by omega)⟩, ⟨⟨x0, xr, ?_, fun e he => ?_, fun v hv => ⟨(xv v hv).1, ?_⟩⟩, ⟨?_, l2, l3, l4, l5, l6, l7, l8⟩, ?_, pre_up (fun e he => ⟨up_lt _ _ e he, up_lt _ _ e he, up_lt _ _ e he⟩) hx.2.2.2.1 rfl rfl rfl (fun k h1 h2 => ?_) rfl, Or.inl rfl⟩, ⟨y0, ?_, y2, fun e he => ?_, yc, yv⟩, hm.2.1, Or.inl rfl⟩
  · rw [cm]
    refine congrArg some (Prod.ext ?_ rfl)
    show nI m + 1 - 1 = nI m
    rw [Int32.add_sub_cancel]
  · by_cases z : e = m
    · subst z
      rw [up_s, up_s, up_s]
      exact ⟨ha1, hb1, hne, hp⟩
    · rw [up_n _ _ z, up_n _ _ z, up_n _ _ z]
      exact c5 e (by omega)
  · by_cases z : e = m
    · rw [z, cz]; exact Nat.zero_le _
    · exact ha.2.2.1 e (by omega)
  · by_cases z : e = m
    · rw [z, up_s]; exact hq
    · rw [up_n _ _ z]; exact ha.2.2.2.1 e (by omega)
  · show σ.1 2 + 1 = _
    rw [xl, nI_1]
  · show upd (σ.2.1 2) m (nI a) e = _ ∧ upd (σ.2.1 3) m (nI b) e = _ ∧ upd (σ.2.1 4) m (nI p) e = _
    by_cases z : e = m
    · rw [z, upd_s, upd_s, upd_s, up_s, up_s, up_s]; exact ⟨rfl, rfl, rfl⟩
    · rw [upd_n _ _ z, upd_n _ _ z, upd_n _ _ z, up_n _ _ z, up_n _ _ z, up_n _ _ z]
      exact xe e (by omega)
  · show upd (upd (σ.2.1 1) a (σ.2.1 1 a ||| (1 : Int32) <<< (nI m &&& 31))) b (upd (σ.2.1 1) a (σ.2.1 1 a ||| (1 : Int32) <<< (nI m &&& 31)) b ||| (1 : Int32) <<< (nI m &&& 31)) v = _
    rw [upd_n _ _ (Ne.symm hne), shl1 m (by omega), (xv a (by omega)).2, (xv b (by omega)).2, fa_or, fa_or, atm_up]
    by_cases z1 : v = b
    · rw [z1, upd_s, if_pos (Or.inr rfl)]
    · rw [upd_n _ _ z1]
      by_cases z2 : v = a
      · rw [z2, upd_s, if_pos (Or.inl rfl)]
      · rw [upd_n _ _ z2, if_neg (fun w => w.elim z2 z1), Nat.or_zero]
        exact (xv v hv).2
  · show σ.1 3 ||| nI q <<< (nI m &&& 31) = _
    rw [l1, shlq hq (by omega), fa_or, red_up hq]
  · show σ.1 4 = _
    rw [hx.2.2.1, cmk_up cz]
  · show (sa (sa (sa (sa (sa (si σ 20 0) 2 m _) 3 m _) 4 m _) 1 a _) 1 b _).2.1 k = _
    rw [sa_ne _ _ _ (by omega), sa_ne _ _ _ (by omega), sa_ne _ _ _ (by omega), sa_ne _ _ _ (by omega), sa_ne _ _ _ (by omega)]
    rfl
  · show nI m + 1 = _
    rw [nI_1]
  · show upd (τ.2.1 0) m (nI a) e = _ ∧ upd (τ.2.1 1) m (nI b) e = _ ∧ upd (τ.2.1 2) m (nI p) e = _ ∧ upd (τ.2.1 3) m (nI q) e = _
    by_cases z : e = m
    · rw [z, upd_s, upd_s, upd_s, upd_s, up_s, up_s, up_s, up_s]; exact ⟨rfl, rfl, rfl, rfl⟩
    · rw [upd_n _ _ z, upd_n _ _ z, upd_n _ _ z, upd_n _ _ z, up_n _ _ z, up_n _ _ z, up_n _ _ z, up_n _ _ z]
      exact ye e (by omega)
