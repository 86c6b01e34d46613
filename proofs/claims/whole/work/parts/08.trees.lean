/-! walks laid by program (gen.py, walk.py): 08.trees -/
def Un_clear  (σ0 : St) : St := lt (fillJ σ0 1 256 0) (fun σ1 => σ1)
abbrev rm_Un_clear : Room := { frames := 1, cells := 0, slots := 0, locals := 24 }
set_option maxHeartbeats 4000000 in
set_option maxRecDepth 100000 in
theorem k_Un_clear (l : Launch) (ad : Nat → Nat) (cI cJ cZ : ClassId)  {σ0 : St} {τ : St} (hf : Un_clear σ0 = τ) : CtV l yX5_clear (gws (.code yX5_clear cX5_clear 1 none)) (rm_Un_clear) (ty3 cI cJ cZ) (xw ad cI cJ) [.ref (ad 8)] σ0 τ := by
  refine CtV.of (by decide) (xw_ok ad cI cJ) (Nat.le_of_ble_eq_true rfl) ?_
  generalize hav : ([.ref (ad 8)] : List Value) = av
  intro p e s m below meth c D A hC ls hl hP hS
  obtain ⟨hx, hb, hr, hlocks, hml, hown, hts, hK, hN, hD, hA⟩ := id hC
  rw [← hav] at hl
  have hl : lv_has ls 1 [(0, .ref (ad 8))] := hl
  unfold Un_clear at hf
  obtain ⟨H, hH⟩ : ∃ z, z = s.heap := ⟨_, rfl⟩
  obtain ⟨locs, hlocs⟩ : ∃ z : List Loc, z = [] := ⟨_, rfl⟩
  rw [← hH] at hP
  have hS : va_S A s.heap H locs := by rw [hH, hlocs]; exact va_S.rf
  suffices hgoal : W p l e _ s m _ below meth c H locs 0 0 _ _ by rw [hH, hlocs] at hgoal; exact hgoal
  refine lv_aload_n hx hb dX5_clear_0 rfl (lv_at hl 0 rfl) ?_
  refine xg_8_0 hC hP tw_194 dX5_clear_1 ?_
  refine lv_lconst (v := 0) hx hb dX5_clear_4 rfl ?_
  obtain ⟨σ1, eσ1, hf⟩ := lt_e hf
  refine cSv (As := [.ref (ad 28), .long 0]) (rest := []) hC (k_fill_28 l ad cI cJ cZ σ0 0) yy_J7_fill_d0a16 tw_352 rfl rfl ⟨by decide, by decide⟩ hP hS rfl hl.1 rfl (Nat.le_of_ble_eq_true rfl) dX5_clear_5 (fun H locs hP hS => ?_)
  rw [← eσ1] at hP
  have h2 := hf
  exact retV hx hb hr hlocks hP hS h2 dX5_clear_8
def Un_put (N : Nat) (x1 : Int32) (σ0 : St) : Option (St) := if (iushr x1 14) = 0 then grd (inb (x1 >>> (6 &&& 31)) 256) (grd (inb (x1 >>> (6 &&& 31)) 256) (lt (sj σ0 1 ((x1 >>> (6 &&& 31))).toNatClampNeg ((σ0.2.2 1 ((x1 >>> (6 &&& 31))).toNatClampNeg) ||| (1 <<< ((x1).toInt64 &&& 63)))) (fun σ4 => some σ4))) else some σ0
abbrev rm_Un_put : Room := { frames := 0, cells := 0, slots := 0, locals := 0 }
set_option maxHeartbeats 4000000 in
set_option maxRecDepth 100000 in
theorem k_Un_put (l : Launch) (ad : Nat → Nat) (cI cJ cZ : ClassId) {N : Nat} {x1 : Int32} {σ0 : St} {τ : St} (hf : Un_put N x1 σ0 = some τ) : CtV l yX5_put (gws (.code yX5_put cX5_put 2 none)) (rm_Un_put) (ty3 cI cJ cZ) (xw ad cI cJ) [.ref (ad 8), .int x1] σ0 τ := by
  refine CtV.of (by decide) (xw_ok ad cI cJ) (Nat.le_of_ble_eq_true rfl) ?_
  generalize hav : ([.ref (ad 8), .int x1] : List Value) = av
  intro p e s m below meth c D A hC ls hl hP hS
  obtain ⟨hx, hb, hr, hlocks, hml, hown, hts, hK, hN, hD, hA⟩ := id hC
  rw [← hav] at hl
  have hl : lv_has ls 2 [(0, .ref (ad 8)), (1, .int x1)] := hl
  unfold Un_put at hf
  obtain ⟨H, hH⟩ : ∃ z, z = s.heap := ⟨_, rfl⟩
  obtain ⟨locs, hlocs⟩ : ∃ z : List Loc, z = [] := ⟨_, rfl⟩
  rw [← hH] at hP
  have hS : va_S A s.heap H locs := by rw [hH, hlocs]; exact va_S.rf
  suffices hgoal : W p l e _ s m _ below meth c H locs 0 0 _ _ by rw [hH, hlocs] at hgoal; exact hgoal
  refine lv_iload_n hx hb dX5_put_0 rfl (lv_at hl 1 rfl) ?_
  refine lv_bipush (v := 14) hx hb dX5_put_1 (by decide) ?_
  refine lv_iushr (v := (iushr x1 14)) hx hb dX5_put_3 rfl ?_
  refine lv_if_ne (tgt := 22) hx hb dX5_put_4 (by decide) (fun c1 => ?_) (fun c1 => ?_)
  · rw [if_neg c1] at hf
    have h2 := Option.some.inj hf
    exact retV hx hb hr hlocks hP hS h2 dX5_put_22
  rw [if_pos c1] at hf
  refine lv_aload_n hx hb dX5_put_7 rfl (lv_at hl 0 rfl) ?_
  refine xg_8_0 hC hP tw_194 dX5_put_8 ?_
  refine lv_iload_n hx hb dX5_put_11 rfl (lv_at hl 1 rfl) ?_
  refine lv_bipush (v := 6) hx hb dX5_put_12 (by decide) ?_
  refine lv_ishr hx hb dX5_put_14 ?_
  refine lv_dup2_11 hx hb dX5_put_15 rfl rfl ?_
  obtain ⟨g2, hf⟩ := grd_some hf
  refine xl_28 hC hP g2 dX5_put_16 ?_
  refine lv_lconst (v := 1) hx hb dX5_put_17 rfl ?_
  refine lv_iload_n hx hb dX5_put_18 rfl (lv_at hl 1 rfl) ?_
  refine lv_lshl (v := (1 <<< ((x1).toInt64 &&& 63))) hx hb dX5_put_19 rfl ?_
  refine lv_lor hx hb dX5_put_20 ?_
  obtain ⟨g3, hf⟩ := grd_some hf
  refine xs_28 hC hP hS g3 dX5_put_21 (fun H locs hP hS => ?_)
  obtain ⟨σ4, eσ4, hf⟩ := lt_e hf
  rw [← eσ4] at hP
  have h2 := Option.some.inj hf
  exact retV hx hb hr hlocks hP hS h2 dX5_put_22
theorem dX5_drop_0 : decode cX5_drop 0 = .ok (.iload_n 1, 1) := by decide +kernel
theorem dX5_drop_1 : decode cX5_drop 1 = .ok (.bipush 14, 2) := by decide +kernel
theorem dX5_drop_3 : decode cX5_drop 3 = .ok (.iushr, 1) := by decide +kernel
theorem dX5_drop_4 : decode cX5_drop 4 = .ok (.ifCond .ne 22, 3) := by decide +kernel
theorem dX5_drop_7 : decode cX5_drop 7 = .ok (.aload_n 0, 1) := by decide +kernel
theorem dX5_drop_8 : decode cX5_drop 8 = .ok (.getfield 9, 3) := by decide +kernel
theorem dX5_drop_11 : decode cX5_drop 11 = .ok (.iload_n 1, 1) := by decide +kernel
theorem dX5_drop_12 : decode cX5_drop 12 = .ok (.bipush 6, 2) := by decide +kernel
theorem dX5_drop_14 : decode cX5_drop 14 = .ok (.ishr, 1) := by decide +kernel
theorem dX5_drop_15 : decode cX5_drop 15 = .ok (.dup2, 1) := by decide +kernel
theorem dX5_drop_16 : decode cX5_drop 16 = .ok (.laload, 1) := by decide +kernel
theorem dX5_drop_17 : decode cX5_drop 17 = .ok (.lconst 1, 1) := by decide +kernel
theorem dX5_drop_18 : decode cX5_drop 18 = .ok (.iload_n 1, 1) := by decide +kernel
theorem dX5_drop_19 : decode cX5_drop 19 = .ok (.lshl, 1) := by decide +kernel
theorem dX5_drop_20 : decode cX5_drop 20 = .ok (.ldc2_w 21, 3) := by decide +kernel
theorem dX5_drop_23 : decode cX5_drop 23 = .ok (.lxor, 1) := by decide +kernel
theorem dX5_drop_24 : decode cX5_drop 24 = .ok (.land, 1) := by decide +kernel
theorem dX5_drop_25 : decode cX5_drop 25 = .ok (.lastore, 1) := by decide +kernel
theorem dX5_drop_26 : decode cX5_drop 26 = .ok (.return_, 1) := by decide +kernel
def Un_drop (N : Nat) (x1 : Int32) (σ0 : St) : Option (St) := if (iushr x1 14) = 0 then grd (inb (x1 >>> (6 &&& 31)) 256) (grd (inb (x1 >>> (6 &&& 31)) 256) (lt (sj σ0 1 ((x1 >>> (6 &&& 31))).toNatClampNeg ((σ0.2.2 1 ((x1 >>> (6 &&& 31))).toNatClampNeg) &&& ((1 <<< ((x1).toInt64 &&& 63)) ^^^ (-1)))) (fun σ4 => some σ4))) else some σ0
abbrev rm_Un_drop : Room := { frames := 0, cells := 0, slots := 0, locals := 0 }
set_option maxHeartbeats 4000000 in
set_option maxRecDepth 100000 in
theorem k_Un_drop (l : Launch) (ad : Nat → Nat) (cI cJ cZ : ClassId) {N : Nat} {x1 : Int32} {σ0 : St} {τ : St} (hf : Un_drop N x1 σ0 = some τ) : CtV l yX5_drop (gws (.code yX5_drop cX5_drop 2 none)) (rm_Un_drop) (ty3 cI cJ cZ) (xw ad cI cJ) [.ref (ad 8), .int x1] σ0 τ := by
  refine CtV.of (by decide) (xw_ok ad cI cJ) (Nat.le_of_ble_eq_true rfl) ?_
  generalize hav : ([.ref (ad 8), .int x1] : List Value) = av
  intro p e s m below meth c D A hC ls hl hP hS
  obtain ⟨hx, hb, hr, hlocks, hml, hown, hts, hK, hN, hD, hA⟩ := id hC
  rw [← hav] at hl
  have hl : lv_has ls 2 [(0, .ref (ad 8)), (1, .int x1)] := hl
  unfold Un_drop at hf
  obtain ⟨H, hH⟩ : ∃ z, z = s.heap := ⟨_, rfl⟩
  obtain ⟨locs, hlocs⟩ : ∃ z : List Loc, z = [] := ⟨_, rfl⟩
  rw [← hH] at hP
  have hS : va_S A s.heap H locs := by rw [hH, hlocs]; exact va_S.rf
  suffices hgoal : W p l e _ s m _ below meth c H locs 0 0 _ _ by rw [hH, hlocs] at hgoal; exact hgoal
  refine lv_iload_n hx hb dX5_drop_0 rfl (lv_at hl 1 rfl) ?_
  refine lv_bipush (v := 14) hx hb dX5_drop_1 (by decide) ?_
  refine lv_iushr (v := (iushr x1 14)) hx hb dX5_drop_3 rfl ?_
  refine lv_if_ne (tgt := 26) hx hb dX5_drop_4 (by decide) (fun c1 => ?_) (fun c1 => ?_)
  · rw [if_neg c1] at hf
    have h2 := Option.some.inj hf
    exact retV hx hb hr hlocks hP hS h2 dX5_drop_26
  rw [if_pos c1] at hf
  refine lv_aload_n hx hb dX5_drop_7 rfl (lv_at hl 0 rfl) ?_
  refine xg_8_0 hC hP tw_194 dX5_drop_8 ?_
  refine lv_iload_n hx hb dX5_drop_11 rfl (lv_at hl 1 rfl) ?_
  refine lv_bipush (v := 6) hx hb dX5_drop_12 (by decide) ?_
  refine lv_ishr hx hb dX5_drop_14 ?_
  refine lv_dup2_11 hx hb dX5_drop_15 rfl rfl ?_
  obtain ⟨g2, hf⟩ := grd_some hf
  refine xl_28 hC hP g2 dX5_drop_16 ?_
  refine lv_lconst (v := 1) hx hb dX5_drop_17 rfl ?_
  refine lv_iload_n hx hb dX5_drop_18 rfl (lv_at hl 1 rfl) ?_
  refine lv_lshl (v := (1 <<< ((x1).toInt64 &&& 63))) hx hb dX5_drop_19 rfl ?_
  refine lv_ldc2 (v := (-1)) hx hb hown (hts _ tw_664) dX5_drop_20 ?_
  refine lv_lxor hx hb dX5_drop_23 ?_
  refine lv_land hx hb dX5_drop_24 ?_
  obtain ⟨g3, hf⟩ := grd_some hf
  refine xs_28 hC hP hS g3 dX5_drop_25 (fun H locs hP hS => ?_)
  obtain ⟨σ4, eσ4, hf⟩ := lt_e hf
  rw [← eσ4] at hP
  have h2 := Option.some.inj hf
  exact retV hx hb hr hlocks hP hS h2 dX5_drop_26
def Un_has (N : Nat) (x1 : Int32) (σ0 : St) : Option (Int32) := if (iushr x1 14) = 0 then grd (inb (x1 >>> (6 &&& 31)) 256) (if (lg_cmp (((σ0.2.2 1 ((x1 >>> (6 &&& 31))).toNatClampNeg) >>> ((x1).toInt64 &&& 63)) &&& 1) 0) = 0 then some 0 else some 1) else some 0
abbrev rm_Un_has : Room := { frames := 0, cells := 0, slots := 0, locals := 0 }
set_option maxHeartbeats 4000000 in
set_option maxRecDepth 100000 in
theorem k_Un_has (l : Launch) (ad : Nat → Nat) (cI cJ cZ : ClassId) {N : Nat} {x1 : Int32} {σ0 : St} {r : Int32} (hf : Un_has N x1 σ0 = some r) : CtI l yX5_has (gws (.code yX5_has cX5_has 2 (some .boolean))) (rm_Un_has) (ty3 cI cJ cZ) (xw ad cI cJ) [.ref (ad 8), .int x1] σ0 r σ0 := by
  refine CtI.of (by decide) (xw_ok ad cI cJ) (Nat.le_of_ble_eq_true rfl) ?_
  generalize hav : ([.ref (ad 8), .int x1] : List Value) = av
  intro p e s m below meth c D A hC ls hl hP hS
  obtain ⟨hx, hb, hr, hlocks, hml, hown, hts, hK, hN, hD, hA⟩ := id hC
  rw [← hav] at hl
  have hl : lv_has ls 2 [(0, .ref (ad 8)), (1, .int x1)] := hl
  unfold Un_has at hf
  obtain ⟨H, hH⟩ : ∃ z, z = s.heap := ⟨_, rfl⟩
  obtain ⟨locs, hlocs⟩ : ∃ z : List Loc, z = [] := ⟨_, rfl⟩
  rw [← hH] at hP
  have hS : va_S A s.heap H locs := by rw [hH, hlocs]; exact va_S.rf
  suffices hgoal : W p l e _ s m _ below meth c H locs 0 0 _ _ by rw [hH, hlocs] at hgoal; exact hgoal
  refine lv_iload_n hx hb dX5_has_0 rfl (lv_at hl 1 rfl) ?_
  refine lv_bipush (v := 14) hx hb dX5_has_1 (by decide) ?_
  refine lv_iushr (v := (iushr x1 14)) hx hb dX5_has_3 rfl ?_
  refine lv_if_ne (tgt := 29) hx hb dX5_has_4 (by decide) (fun c1 => ?_) (fun c1 => ?_)
  · rw [if_neg c1] at hf
    refine lv_iconst (v := 0) hx hb dX5_has_29 (by decide) ?_
    have h1 := Option.some.inj hf
    exact retZ hx hb hr hlocks hP hS (Or.inl rfl) h1 rfl dX5_has_30
  rw [if_pos c1] at hf
  refine lv_aload_n hx hb dX5_has_7 rfl (lv_at hl 0 rfl) ?_
  refine xg_8_0 hC hP tw_194 dX5_has_8 ?_
  refine lv_iload_n hx hb dX5_has_11 rfl (lv_at hl 1 rfl) ?_
  refine lv_bipush (v := 6) hx hb dX5_has_12 (by decide) ?_
  refine lv_ishr hx hb dX5_has_14 ?_
  obtain ⟨g2, hf⟩ := grd_some hf
  refine xl_28 hC hP g2 dX5_has_15 ?_
  refine lv_iload_n hx hb dX5_has_16 rfl (lv_at hl 1 rfl) ?_
  refine lv_lshr (v := ((σ0.2.2 1 ((x1 >>> (6 &&& 31))).toNatClampNeg) >>> ((x1).toInt64 &&& 63))) hx hb dX5_has_17 rfl ?_
  refine lv_lconst (v := 1) hx hb dX5_has_18 rfl ?_
  refine lv_land hx hb dX5_has_19 ?_
  refine lv_lconst (v := 0) hx hb dX5_has_20 rfl ?_
  refine W.lcmp hx hb dX5_has_21 ?_
  refine lv_if_eq (tgt := 29) hx hb dX5_has_22 (by decide) (fun c3 => ?_) (fun c3 => ?_)
  · rw [if_pos c3] at hf
    refine lv_iconst (v := 0) hx hb dX5_has_29 (by decide) ?_
    have h1 := Option.some.inj hf
    exact retZ hx hb hr hlocks hP hS (Or.inl rfl) h1 rfl dX5_has_30
  rw [if_neg c3] at hf
  refine lv_iconst (v := 1) hx hb dX5_has_25 (by decide) ?_
  refine lv_goto (tgt := 30) hx hb dX5_has_26 (by decide) ?_
  have h1 := Option.some.inj hf
  exact retZ hx hb hr hlocks hP hS (Or.inr rfl) h1 rfl dX5_has_30
theorem dX4_demandsBehind_0 : decode cX4_demandsBehind 0 = .ok (.iload 4, 2) := by decide +kernel
theorem dX4_demandsBehind_2 : decode cX4_demandsBehind 2 = .ok (.bipush 8, 2) := by decide +kernel
theorem dX4_demandsBehind_4 : decode cX4_demandsBehind 4 = .ok (.if_icmp .lt 5, 3) := by decide +kernel
theorem dX4_demandsBehind_7 : decode cX4_demandsBehind 7 = .ok (.iconst 0, 1) := by decide +kernel
theorem dX4_demandsBehind_8 : decode cX4_demandsBehind 8 = .ok (.ireturn, 1) := by decide +kernel
theorem dX4_demandsBehind_9 : decode cX4_demandsBehind 9 = .ok (.aload_n 0, 1) := by decide +kernel
theorem dX4_demandsBehind_10 : decode cX4_demandsBehind 10 = .ok (.getfield 9, 3) := by decide +kernel
theorem dX4_demandsBehind_13 : decode cX4_demandsBehind 13 = .ok (.getfield 51, 3) := by decide +kernel
theorem dX4_demandsBehind_16 : decode cX4_demandsBehind 16 = .ok (.iload_n 1, 1) := by decide +kernel
theorem dX4_demandsBehind_17 : decode cX4_demandsBehind 17 = .ok (.iaload, 1) := by decide +kernel
theorem dX4_demandsBehind_18 : decode cX4_demandsBehind 18 = .ok (.aload_n 0, 1) := by decide +kernel
theorem dX4_demandsBehind_19 : decode cX4_demandsBehind 19 = .ok (.getfield 9, 3) := by decide +kernel
theorem dX4_demandsBehind_22 : decode cX4_demandsBehind 22 = .ok (.getfield 54, 3) := by decide +kernel
theorem dX4_demandsBehind_25 : decode cX4_demandsBehind 25 = .ok (.iload_n 1, 1) := by decide +kernel
theorem dX4_demandsBehind_26 : decode cX4_demandsBehind 26 = .ok (.iaload, 1) := by decide +kernel
theorem dX4_demandsBehind_27 : decode cX4_demandsBehind 27 = .ok (.iadd, 1) := by decide +kernel
theorem dX4_demandsBehind_28 : decode cX4_demandsBehind 28 = .ok (.iload_n 2, 1) := by decide +kernel
theorem dX4_demandsBehind_29 : decode cX4_demandsBehind 29 = .ok (.isub, 1) := by decide +kernel
theorem dX4_demandsBehind_30 : decode cX4_demandsBehind 30 = .ok (.istore 6, 2) := by decide +kernel
theorem dX4_demandsBehind_32 : decode cX4_demandsBehind 32 = .ok (.iload 5, 2) := by decide +kernel
theorem dX4_demandsBehind_34 : decode cX4_demandsBehind 34 = .ok (.aload_n 0, 1) := by decide +kernel
theorem dX4_demandsBehind_35 : decode cX4_demandsBehind 35 = .ok (.getfield 9, 3) := by decide +kernel
theorem dX4_demandsBehind_38 : decode cX4_demandsBehind 38 = .ok (.getfield 57, 3) := by decide +kernel
theorem dX4_demandsBehind_41 : decode cX4_demandsBehind 41 = .ok (.iload_n 1, 1) := by decide +kernel
theorem dX4_demandsBehind_42 : decode cX4_demandsBehind 42 = .ok (.iaload, 1) := by decide +kernel
theorem dX4_demandsBehind_43 : decode cX4_demandsBehind 43 = .ok (.iadd, 1) := by decide +kernel
theorem dX4_demandsBehind_44 : decode cX4_demandsBehind 44 = .ok (.istore 7, 2) := by decide +kernel
theorem dX4_demandsBehind_46 : decode cX4_demandsBehind 46 = .ok (.iload_n 3, 1) := by decide +kernel
theorem dX4_demandsBehind_47 : decode cX4_demandsBehind 47 = .ok (.iconst 1, 1) := by decide +kernel
theorem dX4_demandsBehind_48 : decode cX4_demandsBehind 48 = .ok (.iload_n 1, 1) := by decide +kernel
theorem dX4_demandsBehind_49 : decode cX4_demandsBehind 49 = .ok (.ishl, 1) := by decide +kernel
theorem dX4_demandsBehind_50 : decode cX4_demandsBehind 50 = .ok (.ixor, 1) := by decide +kernel
theorem dX4_demandsBehind_51 : decode cX4_demandsBehind 51 = .ok (.istore 8, 2) := by decide +kernel
theorem dX4_demandsBehind_53 : decode cX4_demandsBehind 53 = .ok (.aload_n 0, 1) := by decide +kernel
theorem dX4_demandsBehind_54 : decode cX4_demandsBehind 54 = .ok (.dup, 1) := by decide +kernel
theorem dX4_demandsBehind_55 : decode cX4_demandsBehind 55 = .ok (.getfield 15, 3) := by decide +kernel
theorem dX4_demandsBehind_58 : decode cX4_demandsBehind 58 = .ok (.aload_n 0, 1) := by decide +kernel
theorem dX4_demandsBehind_59 : decode cX4_demandsBehind 59 = .ok (.getfield 9, 3) := by decide +kernel
theorem dX4_demandsBehind_62 : decode cX4_demandsBehind 62 = .ok (.getfield 57, 3) := by decide +kernel
theorem dX4_demandsBehind_65 : decode cX4_demandsBehind 65 = .ok (.iload_n 1, 1) := by decide +kernel
theorem dX4_demandsBehind_66 : decode cX4_demandsBehind 66 = .ok (.iaload, 1) := by decide +kernel
theorem dX4_demandsBehind_67 : decode cX4_demandsBehind 67 = .ok (.iadd, 1) := by decide +kernel
theorem dX4_demandsBehind_68 : decode cX4_demandsBehind 68 = .ok (.putfield 15, 3) := by decide +kernel
theorem dX4_demandsBehind_71 : decode cX4_demandsBehind 71 = .ok (.aload_n 0, 1) := by decide +kernel
theorem dX4_demandsBehind_72 : decode cX4_demandsBehind 72 = .ok (.aload_n 0, 1) := by decide +kernel
theorem dX4_demandsBehind_73 : decode cX4_demandsBehind 73 = .ok (.getfield 19, 3) := by decide +kernel
theorem dX4_demandsBehind_76 : decode cX4_demandsBehind 76 = .ok (.iload 4, 2) := by decide +kernel
theorem dX4_demandsBehind_78 : decode cX4_demandsBehind 78 = .ok (.invokestatic 45, 3) := by decide +kernel
theorem dX4_demandsBehind_81 : decode cX4_demandsBehind 81 = .ok (.putfield 19, 3) := by decide +kernel
theorem dX4_demandsBehind_84 : decode cX4_demandsBehind 84 = .ok (.aload_n 0, 1) := by decide +kernel
theorem dX4_demandsBehind_85 : decode cX4_demandsBehind 85 = .ok (.aload_n 0, 1) := by decide +kernel
theorem dX4_demandsBehind_86 : decode cX4_demandsBehind 86 = .ok (.getfield 25, 3) := by decide +kernel
theorem dX4_demandsBehind_89 : decode cX4_demandsBehind 89 = .ok (.iload 7, 2) := by decide +kernel
theorem dX4_demandsBehind_91 : decode cX4_demandsBehind 91 = .ok (.invokestatic 45, 3) := by decide +kernel
theorem dX4_demandsBehind_94 : decode cX4_demandsBehind 94 = .ok (.putfield 25, 3) := by decide +kernel
theorem dX4_demandsBehind_97 : decode cX4_demandsBehind 97 = .ok (.aload_n 0, 1) := by decide +kernel
theorem dX4_demandsBehind_98 : decode cX4_demandsBehind 98 = .ok (.getfield 9, 3) := by decide +kernel
theorem dX4_demandsBehind_101 : decode cX4_demandsBehind 101 = .ok (.getfield 59, 3) := by decide +kernel
theorem dX4_demandsBehind_104 : decode cX4_demandsBehind 104 = .ok (.iload 6, 2) := by decide +kernel
theorem dX4_demandsBehind_106 : decode cX4_demandsBehind 106 = .ok (.iaload, 1) := by decide +kernel
theorem dX4_demandsBehind_107 : decode cX4_demandsBehind 107 = .ok (.istore 9, 2) := by decide +kernel
theorem dX4_demandsBehind_109 : decode cX4_demandsBehind 109 = .ok (.iload 8, 2) := by decide +kernel
theorem dX4_demandsBehind_111 : decode cX4_demandsBehind 111 = .ok (.aload_n 0, 1) := by decide +kernel
theorem dX4_demandsBehind_112 : decode cX4_demandsBehind 112 = .ok (.getfield 9, 3) := by decide +kernel
theorem dX4_demandsBehind_115 : decode cX4_demandsBehind 115 = .ok (.getfield 28, 3) := by decide +kernel
theorem dX4_demandsBehind_118 : decode cX4_demandsBehind 118 = .ok (.iload 6, 2) := by decide +kernel
theorem dX4_demandsBehind_120 : decode cX4_demandsBehind 120 = .ok (.iaload, 1) := by decide +kernel
theorem dX4_demandsBehind_121 : decode cX4_demandsBehind 121 = .ok (.iand, 1) := by decide +kernel
theorem dX4_demandsBehind_122 : decode cX4_demandsBehind 122 = .ok (.istore 10, 2) := by decide +kernel
theorem dX4_demandsBehind_124 : decode cX4_demandsBehind 124 = .ok (.iload 10, 2) := by decide +kernel
theorem dX4_demandsBehind_126 : decode cX4_demandsBehind 126 = .ok (.ifCond .eq 39, 3) := by decide +kernel
theorem dX4_demandsBehind_129 : decode cX4_demandsBehind 129 = .ok (.iload 9, 2) := by decide +kernel
theorem dX4_demandsBehind_131 : decode cX4_demandsBehind 131 = .ok (.aload_n 0, 1) := by decide +kernel
theorem dX4_demandsBehind_132 : decode cX4_demandsBehind 132 = .ok (.iload 10, 2) := by decide +kernel
theorem dX4_demandsBehind_134 : decode cX4_demandsBehind 134 = .ok (.invokestatic 37, 3) := by decide +kernel
theorem dX4_demandsBehind_137 : decode cX4_demandsBehind 137 = .ok (.iload 6, 2) := by decide +kernel
theorem dX4_demandsBehind_139 : decode cX4_demandsBehind 139 = .ok (.iload 8, 2) := by decide +kernel
theorem dX4_demandsBehind_141 : decode cX4_demandsBehind 141 = .ok (.iload 4, 2) := by decide +kernel
theorem dX4_demandsBehind_143 : decode cX4_demandsBehind 143 = .ok (.iconst 1, 1) := by decide +kernel
theorem dX4_demandsBehind_144 : decode cX4_demandsBehind 144 = .ok (.iadd, 1) := by decide +kernel
theorem dX4_demandsBehind_145 : decode cX4_demandsBehind 145 = .ok (.iload 7, 2) := by decide +kernel
theorem dX4_demandsBehind_147 : decode cX4_demandsBehind 147 = .ok (.invokevirtual 41, 3) := by decide +kernel
theorem dX4_demandsBehind_150 : decode cX4_demandsBehind 150 = .ok (.iadd, 1) := by decide +kernel
theorem dX4_demandsBehind_151 : decode cX4_demandsBehind 151 = .ok (.istore 9, 2) := by decide +kernel
theorem dX4_demandsBehind_153 : decode cX4_demandsBehind 153 = .ok (.iload 10, 2) := by decide +kernel
theorem dX4_demandsBehind_155 : decode cX4_demandsBehind 155 = .ok (.iload 10, 2) := by decide +kernel
theorem dX4_demandsBehind_157 : decode cX4_demandsBehind 157 = .ok (.iconst 1, 1) := by decide +kernel
theorem dX4_demandsBehind_158 : decode cX4_demandsBehind 158 = .ok (.isub, 1) := by decide +kernel
theorem dX4_demandsBehind_159 : decode cX4_demandsBehind 159 = .ok (.iand, 1) := by decide +kernel
theorem dX4_demandsBehind_160 : decode cX4_demandsBehind 160 = .ok (.istore 10, 2) := by decide +kernel
theorem dX4_demandsBehind_162 : decode cX4_demandsBehind 162 = .ok (.goto (-38), 3) := by decide +kernel
theorem dX4_demandsBehind_165 : decode cX4_demandsBehind 165 = .ok (.iload 9, 2) := by decide +kernel
theorem dX4_demandsBehind_167 : decode cX4_demandsBehind 167 = .ok (.ireturn, 1) := by decide +kernel
def Sh_demandsBehind_124 (N : Nat) (rc : Int32 → Int32 → Int32 → Int32 → Int32 → St → Option (Int32 × St)) : Nat → Int32 → Int32 → Int32 → Int32 → Int32 → Int32 → St → Option (Int32 × St)
  | 0, _, _, _, _, _, _, _ => none
  | n + 1, x4, x6, x7, x8, x9, x10, σ => if x10 = 0 then some (x9, σ) else bnd2 (rc (LT_lowest x10) x6 x8 (x4 + 1) x7 σ) (fun y2 σ3 => Sh_demandsBehind_124 N rc n x4 x6 x7 x8 (x9 + y2) (x10 &&& (x10 - 1)) σ3)
theorem Sh_demandsBehind_124_s (N : Nat) (rc : Int32 → Int32 → Int32 → Int32 → Int32 → St → Option (Int32 × St)) (n : Nat) (x4 : Int32) (x6 : Int32) (x7 : Int32) (x8 : Int32) (x9 : Int32) (x10 : Int32) (σ : St) : Sh_demandsBehind_124 N rc (n + 1) x4 x6 x7 x8 x9 x10 σ = if x10 = 0 then some (x9, σ) else bnd2 (rc (LT_lowest x10) x6 x8 (x4 + 1) x7 σ) (fun y2 σ3 => Sh_demandsBehind_124 N rc n x4 x6 x7 x8 (x9 + y2) (x10 &&& (x10 - 1)) σ3) := rfl
def Sh_demandsBehind_b (N : Nat) (rc : Int32 → Int32 → Int32 → Int32 → Int32 → St → Option (Int32 × St)) (x1 : Int32) (x2 : Int32) (x3 : Int32) (x4 : Int32) (x5 : Int32) (σ0 : St) : Option (Int32 × St) := if x4 < 8 then grd (inb x1 14) (grd (inb x1 14) (lt ((((σ0.2.1 2 (x1).toNatClampNeg) + (σ0.2.1 3 (x1).toNatClampNeg)) - x2)) (fun y7 => grd (inb x1 14) (lt ((x5 + (σ0.2.1 4 (x1).toNatClampNeg))) (fun y9 => lt ((x3 ^^^ ((1 : Int32) <<< (x1 &&& 31)))) (fun y10 => grd (inb x1 14) (lt (si σ0 11 ((σ0.1 11) + (σ0.2.1 4 (x1).toNatClampNeg))) (fun σ12 => lt (si σ12 12 (imax (σ12.1 12) x4)) (fun σ13 => lt (si σ13 14 (imax (σ13.1 14) y9)) (fun σ14 => grd (inb y7 8) (lt ((σ14.2.1 0 (y7).toNatClampNeg)) (fun y16 => grd (inb y7 8) (lt ((y10 &&& (σ14.2.1 1 (y7).toNatClampNeg))) (fun y18 => Sh_demandsBehind_124 N rc N x4 y7 y9 y10 y16 y18 σ14)))))))))))))) else some (0, σ0)
def Sh_demandsBehind (N : Nat) : Nat → Int32 → Int32 → Int32 → Int32 → Int32 → St → Option (Int32 × St)
  | 0, _, _, _, _, _, _ => none
  | dd + 1, x1, x2, x3, x4, x5, σ0 => Sh_demandsBehind_b N (Sh_demandsBehind N dd) x1 x2 x3 x4 x5 σ0
theorem Sh_demandsBehind_s (N dd : Nat) (x1 : Int32) (x2 : Int32) (x3 : Int32) (x4 : Int32) (x5 : Int32) (σ0 : St) : Sh_demandsBehind N (dd + 1) x1 x2 x3 x4 x5 σ0 = Sh_demandsBehind_b N (Sh_demandsBehind N dd) x1 x2 x3 x4 x5 σ0 := rfl
def rm_Sh_demandsBehind (dd : Nat) : Room := { frames := 2 + dd, cells := 0, slots := 0, locals := 40 + dd * 30 }
set_option maxHeartbeats 4000000 in
set_option maxRecDepth 100000 in
theorem k_Sh_demandsBehind (l : Launch) (ad : Nat → Nat) (cI cJ cZ : ClassId) {N : Nat} : ∀ (dd : Nat) (x1 : Int32) (x2 : Int32) (x3 : Int32) (x4 : Int32) (x5 : Int32) (σ0 : St) (r : Int32) (τ : St), Sh_demandsBehind N dd x1 x2 x3 x4 x5 σ0 = some (r, τ) → CtI l yX4_demandsBehind (gws (.code yX4_demandsBehind cX4_demandsBehind 11 (some .int))) (rm_Sh_demandsBehind dd) (ty3 cI cJ cZ) (xw ad cI cJ) [.ref (ad 3), .int x1, .int x2, .int x3, .int x4, .int x5] σ0 r τ := by
  intro dd
  induction dd with
  | zero =>
    intro x1 x2 x3 x4 x5 σ0 r τ hf
    cases hf
  | succ dd hrec =>
    intro x1 x2 x3 x4 x5 σ0 r τ hf
    rw [Sh_demandsBehind_s] at hf
    unfold Sh_demandsBehind_b at hf
    generalize hrc : Sh_demandsBehind N dd = rc at hf hrec
    refine CtI.of (by decide) (xw_ok ad cI cJ) (Nat.le_of_ble_eq_true rfl) ?_
    generalize hav : ([.ref (ad 3), .int x1, .int x2, .int x3, .int x4, .int x5] : List Value) = av
    intro p e s m below meth c D A hC ls hl hP hS
    obtain ⟨hx, hb, hr, hlocks, hml, hown, hts, hK, hN, hD, hA⟩ := id hC
    rw [← hav] at hl
    have hl : lv_has ls 11 [(0, .ref (ad 3)), (1, .int x1), (2, .int x2), (3, .int x3), (4, .int x4), (5, .int x5)] := hl
    have hw_124 : ∀ (n : Nat), ∀ (x4 : Int32) (x6 : Int32) (x7 : Int32) (x8 : Int32) (x9 : Int32) (x10 : Int32) (σ : St) (H : Heap) (locs : List Loc) (ls : Array Slot), va_P D vwCl ((xw ad cI cJ) σ) H → va_S A s.heap H locs → lv_has ls 11 [(0, .ref (ad 3)), (4, .int x4), (6, .int x6), (7, .int x7), (8, .int x8), (9, .int x9), (10, .int x10)] → Sh_demandsBehind_124 N rc n x4 x6 x7 x8 x9 x10 σ = some (r, τ) → W p l e (rm_Sh_demandsBehind (dd + 1)) s m av.toArray below meth c H locs 0 0 (QI below av.toArray s D A (xw ad cI cJ) r τ) (F0 m 124 ls []) := by
      intro n
      induction n with
      | zero =>
        intro x4 x6 x7 x8 x9 x10 σ H locs ls hP hS hl hf
        cases hf
      | succ n ih =>
        intro x4 x6 x7 x8 x9 x10 σ H locs ls hP hS hl hf
        rw [Sh_demandsBehind_124_s] at hf
        refine lv_iload hx hb dX4_demandsBehind_124 (lv_at hl 6 rfl) ?_
        refine lv_if_eq (tgt := 165) hx hb dX4_demandsBehind_126 (by decide) (fun c1 => ?_) (fun c1 => ?_)
        · rw [if_pos c1] at hf
          refine lv_iload hx hb dX4_demandsBehind_165 (lv_at hl 5 rfl) ?_
          obtain ⟨h1, h2⟩ := ret2 hf
          exact retI hx hb hr hlocks hP hS h1 h2 dX4_demandsBehind_167
        rw [if_neg c1] at hf
        refine lv_iload hx hb dX4_demandsBehind_129 (lv_at hl 5 rfl) ?_
        refine lv_aload_n hx hb dX4_demandsBehind_131 rfl (lv_at hl 0 rfl) ?_
        refine lv_iload hx hb dX4_demandsBehind_132 (lv_at hl 6 rfl) ?_
        refine cNi (As := [.int x10]) (rest := [.ref (ad 3), .int x9]) hC (k_LT_lowest l (xw ad cI cJ) (xw_ok ad cI cJ) (ty3 cI cJ cZ) _ rfl) yy_X7_lowest hN.2 rfl rfl ⟨by simp only [rm_Sh_demandsBehind]; omega, by simp only [rm_Sh_demandsBehind]; omega⟩ hP hS rfl hl.1 rfl (Nat.le_of_ble_eq_true rfl) dX4_demandsBehind_134 (fun H locs hP hS => ?_)
        refine lv_iload hx hb dX4_demandsBehind_137 (lv_at hl 2 rfl) ?_
        refine lv_iload hx hb dX4_demandsBehind_139 (lv_at hl 4 rfl) ?_
        refine lv_iload hx hb dX4_demandsBehind_141 (lv_at hl 1 rfl) ?_
        refine lv_iconst (v := 1) hx hb dX4_demandsBehind_143 (by decide) ?_
        refine lv_iadd hx hb dX4_demandsBehind_144 ?_
        refine lv_iload hx hb dX4_demandsBehind_145 (lv_at hl 3 rfl) ?_
        obtain ⟨y2, σ3, hcy2, hf⟩ := bnd2_some hf
        refine cVi (As := [.int (LT_lowest x10), .int x6, .int x8, .int (x4 + 1), .int x7]) (rest := [.int x9]) hC (hrec _ _ _ _ _ _ _ _ hcy2) yy_X4_demandsBehind tw_528 rfl rfl ⟨by simp only [rm_Sh_demandsBehind]; omega, by simp only [rm_Sh_demandsBehind]; omega⟩ hP hS (q0 := 3) (ci := 4) rfl rfl (xwa_3 ..) rfl hl.1 rfl (Nat.le_of_ble_eq_true rfl) dX4_demandsBehind_147 (fun H locs hP hS => ?_)
        refine lv_iadd hx hb dX4_demandsBehind_150 ?_
        refine lv_istore (lv' := [(9, .int (x9 + y2)), (0, .ref (ad 3)), (4, .int x4), (6, .int x6), (7, .int x7), (8, .int x8), (10, .int x10)]) hx hb dX4_demandsBehind_151 hl (by decide) rfl (fun ls hl => ?_)
        refine lv_iload hx hb dX4_demandsBehind_153 (lv_at hl 6 rfl) ?_
        refine lv_iload hx hb dX4_demandsBehind_155 (lv_at hl 6 rfl) ?_
        refine lv_iconst (v := 1) hx hb dX4_demandsBehind_157 (by decide) ?_
        refine lv_isub hx hb dX4_demandsBehind_158 ?_
        refine lv_iand hx hb dX4_demandsBehind_159 ?_
        refine lv_istore (lv' := [(10, .int (x10 &&& (x10 - 1))), (9, .int (x9 + y2)), (0, .ref (ad 3)), (4, .int x4), (6, .int x6), (7, .int x7), (8, .int x8)]) hx hb dX4_demandsBehind_160 hl (by decide) rfl (fun ls hl => ?_)
        refine lv_goto (tgt := 124) hx hb dX4_demandsBehind_162 (by decide) ?_
        exact ih x4 x6 x7 x8 (x9 + y2) (x10 &&& (x10 - 1)) σ3 H locs ls hP hS (lv_sub hl [2, 3, 4, 5, 6, 1, 0] rfl) hf
    obtain ⟨H, hH⟩ : ∃ z, z = s.heap := ⟨_, rfl⟩
    obtain ⟨locs, hlocs⟩ : ∃ z : List Loc, z = [] := ⟨_, rfl⟩
    rw [← hH] at hP
    have hS : va_S A s.heap H locs := by rw [hH, hlocs]; exact va_S.rf
    suffices hgoal : W p l e _ s m _ below meth c H locs 0 0 _ _ by rw [hH, hlocs] at hgoal; exact hgoal
    refine lv_iload hx hb dX4_demandsBehind_0 (lv_at hl 4 rfl) ?_
    refine lv_bipush (v := 8) hx hb dX4_demandsBehind_2 (by decide) ?_
    refine lv_icmp_lt (tgt := 9) hx hb dX4_demandsBehind_4 (by decide) (fun c4 => ?_) (fun c4 => ?_)
    · rw [if_pos c4] at hf
      refine lv_aload_n hx hb dX4_demandsBehind_9 rfl (lv_at hl 0 rfl) ?_
      refine xg_3_4 hC hP tw_170 dX4_demandsBehind_10 ?_
      refine xg_1_7 hC hP tw_86 dX4_demandsBehind_13 ?_
      refine lv_iload_n hx hb dX4_demandsBehind_16 rfl (lv_at hl 1 rfl) ?_
      obtain ⟨g5, hf⟩ := grd_some hf
      refine xl_11 hC hP g5 dX4_demandsBehind_17 ?_
      refine lv_aload_n hx hb dX4_demandsBehind_18 rfl (lv_at hl 0 rfl) ?_
      refine xg_3_4 hC hP tw_170 dX4_demandsBehind_19 ?_
      refine xg_1_8 hC hP tw_90 dX4_demandsBehind_22 ?_
      refine lv_iload_n hx hb dX4_demandsBehind_25 rfl (lv_at hl 1 rfl) ?_
      obtain ⟨g6, hf⟩ := grd_some hf
      refine xl_12 hC hP g6 dX4_demandsBehind_26 ?_
      refine lv_iadd hx hb dX4_demandsBehind_27 ?_
      refine lv_iload_n hx hb dX4_demandsBehind_28 rfl (lv_at hl 2 rfl) ?_
      refine lv_isub hx hb dX4_demandsBehind_29 ?_
      obtain ⟨y7, ey7, hf⟩ := lt_e hf
      rw [← ey7]
      refine lv_istore (lv' := [(6, .int y7), (0, .ref (ad 3)), (1, .int x1), (2, .int x2), (3, .int x3), (4, .int x4), (5, .int x5)]) hx hb dX4_demandsBehind_30 hl (by decide) rfl (fun ls hl => ?_)
      refine lv_iload hx hb dX4_demandsBehind_32 (lv_at hl 6 rfl) ?_
      refine lv_aload_n hx hb dX4_demandsBehind_34 rfl (lv_at hl 1 rfl) ?_
      refine xg_3_4 hC hP tw_170 dX4_demandsBehind_35 ?_
      refine xg_1_9 hC hP tw_94 dX4_demandsBehind_38 ?_
      refine lv_iload_n hx hb dX4_demandsBehind_41 rfl (lv_at hl 2 rfl) ?_
      obtain ⟨g8, hf⟩ := grd_some hf
      refine xl_13 hC hP g8 dX4_demandsBehind_42 ?_
      refine lv_iadd hx hb dX4_demandsBehind_43 ?_
      obtain ⟨y9, ey9, hf⟩ := lt_e hf
      rw [← ey9]
      refine lv_istore (lv' := [(7, .int y9), (6, .int y7), (0, .ref (ad 3)), (1, .int x1), (2, .int x2), (3, .int x3), (4, .int x4), (5, .int x5)]) hx hb dX4_demandsBehind_44 hl (by decide) rfl (fun ls hl => ?_)
      refine lv_iload_n hx hb dX4_demandsBehind_46 rfl (lv_at hl 5 rfl) ?_
      refine lv_iconst (v := 1) hx hb dX4_demandsBehind_47 (by decide) ?_
      refine lv_iload_n hx hb dX4_demandsBehind_48 rfl (lv_at hl 3 rfl) ?_
      refine lv_ishl hx hb dX4_demandsBehind_49 ?_
      refine lv_ixor hx hb dX4_demandsBehind_50 ?_
      obtain ⟨y10, ey10, hf⟩ := lt_e hf
      rw [← ey10]
      refine lv_istore (lv' := [(8, .int y10), (7, .int y9), (6, .int y7), (0, .ref (ad 3)), (1, .int x1), (2, .int x2), (3, .int x3), (4, .int x4), (5, .int x5)]) hx hb dX4_demandsBehind_51 hl (by decide) rfl (fun ls hl => ?_)
      refine lv_aload_n hx hb dX4_demandsBehind_53 rfl (lv_at hl 3 rfl) ?_
      refine lv_dup hx hb dX4_demandsBehind_54 rfl ?_
      refine xg_3_0 hC hP tw_158 dX4_demandsBehind_55 ?_
      refine lv_aload_n hx hb dX4_demandsBehind_58 rfl (lv_at hl 3 rfl) ?_
      refine xg_3_4 hC hP tw_170 dX4_demandsBehind_59 ?_
      refine xg_1_9 hC hP tw_94 dX4_demandsBehind_62 ?_
      refine lv_iload_n hx hb dX4_demandsBehind_65 rfl (lv_at hl 4 rfl) ?_
      obtain ⟨g11, hf⟩ := grd_some hf
      refine xl_13 hC hP g11 dX4_demandsBehind_66 ?_
      refine lv_iadd hx hb dX4_demandsBehind_67 ?_
      refine xp_3_0 hC hP hS tw_158 dX4_demandsBehind_68 (fun H locs hP hS => ?_)
      obtain ⟨σ12, eσ12, hf⟩ := lt_e hf
      rw [← eσ12] at hP
      refine lv_aload_n hx hb dX4_demandsBehind_71 rfl (lv_at hl 3 rfl) ?_
      refine lv_aload_n hx hb dX4_demandsBehind_72 rfl (lv_at hl 3 rfl) ?_
      refine xg_3_1 hC hP tw_161 dX4_demandsBehind_73 ?_
      refine lv_iload hx hb dX4_demandsBehind_76 (lv_at hl 7 rfl) ?_
      refine xmax hC hl.1 tw_532 (by simp only [rm_Sh_demandsBehind]; omega) (Nat.le_trans (m := 21) (Nat.le_of_ble_eq_true rfl) (by simp only [rm_Sh_demandsBehind]; omega)) dX4_demandsBehind_78 ?_
      refine xp_3_1 hC hP hS tw_161 dX4_demandsBehind_81 (fun H locs hP hS => ?_)
      obtain ⟨σ13, eσ13, hf⟩ := lt_e hf
      rw [← eσ13] at hP
      refine lv_aload_n hx hb dX4_demandsBehind_84 rfl (lv_at hl 3 rfl) ?_
      refine lv_aload_n hx hb dX4_demandsBehind_85 rfl (lv_at hl 3 rfl) ?_
      refine xg_3_3 hC hP tw_167 dX4_demandsBehind_86 ?_
      refine lv_iload hx hb dX4_demandsBehind_89 (lv_at hl 1 rfl) ?_
      refine xmax hC hl.1 tw_532 (by simp only [rm_Sh_demandsBehind]; omega) (Nat.le_trans (m := 21) (Nat.le_of_ble_eq_true rfl) (by simp only [rm_Sh_demandsBehind]; omega)) dX4_demandsBehind_91 ?_
      refine xp_3_3 hC hP hS tw_167 dX4_demandsBehind_94 (fun H locs hP hS => ?_)
      obtain ⟨σ14, eσ14, hf⟩ := lt_e hf
      rw [← eσ14] at hP
      refine lv_aload_n hx hb dX4_demandsBehind_97 rfl (lv_at hl 3 rfl) ?_
      refine xg_3_4 hC hP tw_170 dX4_demandsBehind_98 ?_
      refine xg_1_5 hC hP tw_80 dX4_demandsBehind_101 ?_
      refine lv_iload hx hb dX4_demandsBehind_104 (lv_at hl 2 rfl) ?_
      obtain ⟨g15, hf⟩ := grd_some hf
      refine xl_9 hC hP g15 dX4_demandsBehind_106 ?_
      obtain ⟨y16, ey16, hf⟩ := lt_e hf
      rw [← ey16]
      refine lv_istore (lv' := [(9, .int y16), (8, .int y10), (7, .int y9), (6, .int y7), (0, .ref (ad 3)), (1, .int x1), (2, .int x2), (3, .int x3), (4, .int x4), (5, .int x5)]) hx hb dX4_demandsBehind_107 hl (by decide) rfl (fun ls hl => ?_)
      refine lv_iload hx hb dX4_demandsBehind_109 (lv_at hl 1 rfl) ?_
      refine lv_aload_n hx hb dX4_demandsBehind_111 rfl (lv_at hl 4 rfl) ?_
      refine xg_3_4 hC hP tw_170 dX4_demandsBehind_112 ?_
      refine xg_1_6 hC hP tw_83 dX4_demandsBehind_115 ?_
      refine lv_iload hx hb dX4_demandsBehind_118 (lv_at hl 3 rfl) ?_
      obtain ⟨g17, hf⟩ := grd_some hf
      refine xl_10 hC hP g17 dX4_demandsBehind_120 ?_
      refine lv_iand hx hb dX4_demandsBehind_121 ?_
      obtain ⟨y18, ey18, hf⟩ := lt_e hf
      rw [← ey18]
      refine lv_istore (lv' := [(10, .int y18), (9, .int y16), (8, .int y10), (7, .int y9), (6, .int y7), (0, .ref (ad 3)), (1, .int x1), (2, .int x2), (3, .int x3), (4, .int x4), (5, .int x5)]) hx hb dX4_demandsBehind_122 hl (by decide) rfl (fun ls hl => ?_)
      exact hw_124 N x4 y7 y9 y10 y16 y18 σ14 H locs ls hP hS (lv_sub hl [5, 9, 4, 3, 2, 1, 0] rfl) hf
    rw [if_neg c4] at hf
    refine lv_iconst (v := 0) hx hb dX4_demandsBehind_7 (by decide) ?_
    obtain ⟨h1, h2⟩ := ret2 hf
    exact retI hx hb hr hlocks hP hS h1 h2 dX4_demandsBehind_8
theorem dX4_walk_0 : decode cX4_walk 0 = .ok (.aload_n 0, 1) := by decide +kernel
theorem dX4_walk_1 : decode cX4_walk 1 = .ok (.iconst 0, 1) := by decide +kernel
theorem dX4_walk_2 : decode cX4_walk 2 = .ok (.putfield 15, 3) := by decide +kernel
theorem dX4_walk_5 : decode cX4_walk 5 = .ok (.aload_n 0, 1) := by decide +kernel
theorem dX4_walk_6 : decode cX4_walk 6 = .ok (.iconst 0, 1) := by decide +kernel
theorem dX4_walk_7 : decode cX4_walk 7 = .ok (.putfield 19, 3) := by decide +kernel
theorem dX4_walk_10 : decode cX4_walk 10 = .ok (.aload_n 0, 1) := by decide +kernel
theorem dX4_walk_11 : decode cX4_walk 11 = .ok (.iconst 0, 1) := by decide +kernel
theorem dX4_walk_12 : decode cX4_walk 12 = .ok (.putfield 22, 3) := by decide +kernel
theorem dX4_walk_15 : decode cX4_walk 15 = .ok (.aload_n 0, 1) := by decide +kernel
theorem dX4_walk_16 : decode cX4_walk 16 = .ok (.iconst 0, 1) := by decide +kernel
theorem dX4_walk_17 : decode cX4_walk 17 = .ok (.putfield 25, 3) := by decide +kernel
theorem dX4_walk_20 : decode cX4_walk 20 = .ok (.iload_n 1, 1) := by decide +kernel
theorem dX4_walk_21 : decode cX4_walk 21 = .ok (.aload_n 0, 1) := by decide +kernel
theorem dX4_walk_22 : decode cX4_walk 22 = .ok (.getfield 9, 3) := by decide +kernel
theorem dX4_walk_25 : decode cX4_walk 25 = .ok (.getfield 28, 3) := by decide +kernel
theorem dX4_walk_28 : decode cX4_walk 28 = .ok (.aload_n 0, 1) := by decide +kernel
theorem dX4_walk_29 : decode cX4_walk 29 = .ok (.getfield 9, 3) := by decide +kernel
theorem dX4_walk_32 : decode cX4_walk 32 = .ok (.getfield 34, 3) := by decide +kernel
theorem dX4_walk_35 : decode cX4_walk 35 = .ok (.iaload, 1) := by decide +kernel
theorem dX4_walk_36 : decode cX4_walk 36 = .ok (.iand, 1) := by decide +kernel
theorem dX4_walk_37 : decode cX4_walk 37 = .ok (.istore_n 2, 1) := by decide +kernel
theorem dX4_walk_38 : decode cX4_walk 38 = .ok (.iload_n 2, 1) := by decide +kernel
theorem dX4_walk_39 : decode cX4_walk 39 = .ok (.ifCond .eq 41, 3) := by decide +kernel
theorem dX4_walk_42 : decode cX4_walk 42 = .ok (.aload_n 0, 1) := by decide +kernel
theorem dX4_walk_43 : decode cX4_walk 43 = .ok (.aload_n 0, 1) := by decide +kernel
theorem dX4_walk_44 : decode cX4_walk 44 = .ok (.getfield 22, 3) := by decide +kernel
theorem dX4_walk_47 : decode cX4_walk 47 = .ok (.aload_n 0, 1) := by decide +kernel
theorem dX4_walk_48 : decode cX4_walk 48 = .ok (.iload_n 2, 1) := by decide +kernel
theorem dX4_walk_49 : decode cX4_walk 49 = .ok (.invokestatic 37, 3) := by decide +kernel
theorem dX4_walk_52 : decode cX4_walk 52 = .ok (.aload_n 0, 1) := by decide +kernel
theorem dX4_walk_53 : decode cX4_walk 53 = .ok (.getfield 9, 3) := by decide +kernel
theorem dX4_walk_56 : decode cX4_walk 56 = .ok (.getfield 34, 3) := by decide +kernel
theorem dX4_walk_59 : decode cX4_walk 59 = .ok (.iload_n 1, 1) := by decide +kernel
theorem dX4_walk_60 : decode cX4_walk 60 = .ok (.iconst 1, 1) := by decide +kernel
theorem dX4_walk_61 : decode cX4_walk 61 = .ok (.iconst 0, 1) := by decide +kernel
theorem dX4_walk_62 : decode cX4_walk 62 = .ok (.invokevirtual 41, 3) := by decide +kernel
theorem dX4_walk_65 : decode cX4_walk 65 = .ok (.invokestatic 45, 3) := by decide +kernel
theorem dX4_walk_68 : decode cX4_walk 68 = .ok (.putfield 22, 3) := by decide +kernel
theorem dX4_walk_71 : decode cX4_walk 71 = .ok (.iload_n 2, 1) := by decide +kernel
theorem dX4_walk_72 : decode cX4_walk 72 = .ok (.iload_n 2, 1) := by decide +kernel
theorem dX4_walk_73 : decode cX4_walk 73 = .ok (.iconst 1, 1) := by decide +kernel
theorem dX4_walk_74 : decode cX4_walk 74 = .ok (.isub, 1) := by decide +kernel
theorem dX4_walk_75 : decode cX4_walk 75 = .ok (.iand, 1) := by decide +kernel
theorem dX4_walk_76 : decode cX4_walk 76 = .ok (.istore_n 2, 1) := by decide +kernel
theorem dX4_walk_77 : decode cX4_walk 77 = .ok (.goto (-39), 3) := by decide +kernel
theorem dX4_walk_80 : decode cX4_walk 80 = .ok (.return_, 1) := by decide +kernel
def Sh_walk_38 (N : Nat) : Nat → Int32 → Int32 → St → Option (St)
  | 0, _, _, _ => none
  | n + 1, x1, x2, σ => if x2 = 0 then some σ else bnd2 (Sh_demandsBehind N 8 (LT_lowest x2) (σ.1 1) x1 1 0 σ) (fun y2 σ3 => lt (si σ3 13 (imax (σ.1 13) y2)) (fun σ4 => Sh_walk_38 N n x1 (x2 &&& (x2 - 1)) σ4))
theorem Sh_walk_38_s (N : Nat) (n : Nat) (x1 : Int32) (x2 : Int32) (σ : St) : Sh_walk_38 N (n + 1) x1 x2 σ = if x2 = 0 then some σ else bnd2 (Sh_demandsBehind N 8 (LT_lowest x2) (σ.1 1) x1 1 0 σ) (fun y2 σ3 => lt (si σ3 13 (imax (σ.1 13) y2)) (fun σ4 => Sh_walk_38 N n x1 (x2 &&& (x2 - 1)) σ4)) := rfl
def Sh_walk (N : Nat) (x1 : Int32) (σ0 : St) : Option (St) := lt (si σ0 11 0) (fun σ5 => lt (si σ5 12 0) (fun σ6 => lt (si σ6 13 0) (fun σ7 => lt (si σ7 14 0) (fun σ8 => grd (inb (σ8.1 1) 8) (lt ((x1 &&& (σ8.2.1 1 ((σ8.1 1)).toNatClampNeg))) (fun y10 => Sh_walk_38 N N x1 y10 σ8))))))
abbrev rm_Sh_walk : Room := { frames := 11, cells := 0, slots := 0, locals := 310 }
set_option maxHeartbeats 4000000 in
set_option maxRecDepth 100000 in
theorem k_Sh_walk (l : Launch) (ad : Nat → Nat) (cI cJ cZ : ClassId) {N : Nat} {x1 : Int32} {σ0 : St} {τ : St} (hf : Sh_walk N x1 σ0 = some τ) : CtV l yX4_walk (gws (.code yX4_walk cX4_walk 3 none)) (rm_Sh_walk) (ty3 cI cJ cZ) (xw ad cI cJ) [.ref (ad 3), .int x1] σ0 τ := by
  refine CtV.of (by decide) (xw_ok ad cI cJ) (Nat.le_of_ble_eq_true rfl) ?_
  generalize hav : ([.ref (ad 3), .int x1] : List Value) = av
  intro p e s m below meth c D A hC ls hl hP hS
  obtain ⟨hx, hb, hr, hlocks, hml, hown, hts, hK, hN, hD, hA⟩ := id hC
  rw [← hav] at hl
  have hl : lv_has ls 3 [(0, .ref (ad 3)), (1, .int x1)] := hl
  unfold Sh_walk at hf
  have hw_38 : ∀ (n : Nat), ∀ (x1 : Int32) (x2 : Int32) (σ : St) (H : Heap) (locs : List Loc) (ls : Array Slot), va_P D vwCl ((xw ad cI cJ) σ) H → va_S A s.heap H locs → lv_has ls 3 [(0, .ref (ad 3)), (1, .int x1), (2, .int x2)] → Sh_walk_38 N n x1 x2 σ = some τ → W p l e (rm_Sh_walk) s m av.toArray below meth c H locs 0 0 (QV below av.toArray s D A (xw ad cI cJ) τ) (F0 m 38 ls []) := by
    intro n
    induction n with
    | zero =>
      intro x1 x2 σ H locs ls hP hS hl hf
      cases hf
    | succ n ih =>
      intro x1 x2 σ H locs ls hP hS hl hf
      rw [Sh_walk_38_s] at hf
      refine lv_iload_n hx hb dX4_walk_38 rfl (lv_at hl 2 rfl) ?_
      refine lv_if_eq (tgt := 80) hx hb dX4_walk_39 (by decide) (fun c1 => ?_) (fun c1 => ?_)
      · rw [if_pos c1] at hf
        have h2 := Option.some.inj hf
        exact retV hx hb hr hlocks hP hS h2 dX4_walk_80
      rw [if_neg c1] at hf
      refine lv_aload_n hx hb dX4_walk_42 rfl (lv_at hl 0 rfl) ?_
      refine lv_aload_n hx hb dX4_walk_43 rfl (lv_at hl 0 rfl) ?_
      refine xg_3_2 hC hP tw_164 dX4_walk_44 ?_
      refine lv_aload_n hx hb dX4_walk_47 rfl (lv_at hl 0 rfl) ?_
      refine lv_iload_n hx hb dX4_walk_48 rfl (lv_at hl 2 rfl) ?_
      refine cNi (As := [.int x2]) (rest := [.ref (ad 3), .int (σ.1 13), .ref (ad 3)]) hC (k_LT_lowest l (xw ad cI cJ) (xw_ok ad cI cJ) (ty3 cI cJ cZ) _ rfl) yy_X7_lowest hN.2 rfl rfl ⟨by decide, by decide⟩ hP hS rfl hl.1 rfl (Nat.le_of_ble_eq_true rfl) dX4_walk_49 (fun H locs hP hS => ?_)
      refine lv_aload_n hx hb dX4_walk_52 rfl (lv_at hl 0 rfl) ?_
      refine xg_3_4 hC hP tw_170 dX4_walk_53 ?_
      refine xg_1_1 hC hP tw_69 dX4_walk_56 ?_
      refine lv_iload_n hx hb dX4_walk_59 rfl (lv_at hl 1 rfl) ?_
      refine lv_iconst (v := 1) hx hb dX4_walk_60 (by decide) ?_
      refine lv_iconst (v := 0) hx hb dX4_walk_61 (by decide) ?_
      obtain ⟨y2, σ3, hcy2, hf⟩ := bnd2_some hf
      refine cVi (As := [.int (LT_lowest x2), .int (σ.1 1), .int x1, .int 1, .int 0]) (rest := [.int (σ.1 13), .ref (ad 3)]) hC (k_Sh_demandsBehind l ad cI cJ cZ 8 _ _ _ _ _ _ _ _ hcy2) yy_X4_demandsBehind tw_528 rfl rfl ⟨by decide, by decide⟩ hP hS (q0 := 3) (ci := 4) rfl rfl (xwa_3 ..) rfl hl.1 rfl (Nat.le_of_ble_eq_true rfl) dX4_walk_62 (fun H locs hP hS => ?_)
      refine xmax hC hl.1 tw_532 (by decide) (Nat.le_trans (m := 21) (Nat.le_of_ble_eq_true rfl) (by decide)) dX4_walk_65 ?_
      refine xp_3_2 hC hP hS tw_164 dX4_walk_68 (fun H locs hP hS => ?_)
      obtain ⟨σ4, eσ4, hf⟩ := lt_e hf
      rw [← eσ4] at hP
      refine lv_iload_n hx hb dX4_walk_71 rfl (lv_at hl 2 rfl) ?_
      refine lv_iload_n hx hb dX4_walk_72 rfl (lv_at hl 2 rfl) ?_
      refine lv_iconst (v := 1) hx hb dX4_walk_73 (by decide) ?_
      refine lv_isub hx hb dX4_walk_74 ?_
      refine lv_iand hx hb dX4_walk_75 ?_
      refine lv_istore_n (lv' := [(2, .int (x2 &&& (x2 - 1))), (0, .ref (ad 3)), (1, .int x1)]) hx hb dX4_walk_76 rfl hl (by decide) rfl (fun ls hl => ?_)
      refine lv_goto (tgt := 38) hx hb dX4_walk_77 (by decide) ?_
      exact ih x1 (x2 &&& (x2 - 1)) σ4 H locs ls hP hS (lv_sub hl [1, 2, 0] rfl) hf
  obtain ⟨H, hH⟩ : ∃ z, z = s.heap := ⟨_, rfl⟩
  obtain ⟨locs, hlocs⟩ : ∃ z : List Loc, z = [] := ⟨_, rfl⟩
  rw [← hH] at hP
  have hS : va_S A s.heap H locs := by rw [hH, hlocs]; exact va_S.rf
  suffices hgoal : W p l e _ s m _ below meth c H locs 0 0 _ _ by rw [hH, hlocs] at hgoal; exact hgoal
  refine lv_aload_n hx hb dX4_walk_0 rfl (lv_at hl 0 rfl) ?_
  refine lv_iconst (v := 0) hx hb dX4_walk_1 (by decide) ?_
  refine xp_3_0 hC hP hS tw_158 dX4_walk_2 (fun H locs hP hS => ?_)
  obtain ⟨σ5, eσ5, hf⟩ := lt_e hf
  rw [← eσ5] at hP
  refine lv_aload_n hx hb dX4_walk_5 rfl (lv_at hl 0 rfl) ?_
  refine lv_iconst (v := 0) hx hb dX4_walk_6 (by decide) ?_
  refine xp_3_1 hC hP hS tw_161 dX4_walk_7 (fun H locs hP hS => ?_)
  obtain ⟨σ6, eσ6, hf⟩ := lt_e hf
  rw [← eσ6] at hP
  refine lv_aload_n hx hb dX4_walk_10 rfl (lv_at hl 0 rfl) ?_
  refine lv_iconst (v := 0) hx hb dX4_walk_11 (by decide) ?_
  refine xp_3_2 hC hP hS tw_164 dX4_walk_12 (fun H locs hP hS => ?_)
  obtain ⟨σ7, eσ7, hf⟩ := lt_e hf
  rw [← eσ7] at hP
  refine lv_aload_n hx hb dX4_walk_15 rfl (lv_at hl 0 rfl) ?_
  refine lv_iconst (v := 0) hx hb dX4_walk_16 (by decide) ?_
  refine xp_3_3 hC hP hS tw_167 dX4_walk_17 (fun H locs hP hS => ?_)
  obtain ⟨σ8, eσ8, hf⟩ := lt_e hf
  rw [← eσ8] at hP
  refine lv_iload_n hx hb dX4_walk_20 rfl (lv_at hl 1 rfl) ?_
  refine lv_aload_n hx hb dX4_walk_21 rfl (lv_at hl 0 rfl) ?_
  refine xg_3_4 hC hP tw_170 dX4_walk_22 ?_
  refine xg_1_6 hC hP tw_83 dX4_walk_25 ?_
  refine lv_aload_n hx hb dX4_walk_28 rfl (lv_at hl 0 rfl) ?_
  refine xg_3_4 hC hP tw_170 dX4_walk_29 ?_
  refine xg_1_1 hC hP tw_69 dX4_walk_32 ?_
  obtain ⟨g9, hf⟩ := grd_some hf
  refine xl_10 hC hP g9 dX4_walk_35 ?_
  refine lv_iand hx hb dX4_walk_36 ?_
  obtain ⟨y10, ey10, hf⟩ := lt_e hf
  rw [← ey10]
  refine lv_istore_n (lv' := [(2, .int y10), (0, .ref (ad 3)), (1, .int x1)]) hx hb dX4_walk_37 rfl hl (by decide) rfl (fun ls hl => ?_)
  exact hw_38 N x1 y10 σ8 H locs ls hP hS (lv_sub hl [1, 2, 0] rfl) hf
theorem dX6_clear_0 : decode cX6_clear 0 = .ok (.aload_n 0, 1) := by decide +kernel
theorem dX6_clear_1 : decode cX6_clear 1 = .ok (.iconst 0, 1) := by decide +kernel
theorem dX6_clear_2 : decode cX6_clear 2 = .ok (.putfield 44, 3) := by decide +kernel
theorem dX6_clear_5 : decode cX6_clear 5 = .ok (.aload_n 0, 1) := by decide +kernel
theorem dX6_clear_6 : decode cX6_clear 6 = .ok (.iconst 0, 1) := by decide +kernel
theorem dX6_clear_7 : decode cX6_clear 7 = .ok (.putfield 48, 3) := by decide +kernel
theorem dX6_clear_10 : decode cX6_clear 10 = .ok (.aload_n 0, 1) := by decide +kernel
theorem dX6_clear_11 : decode cX6_clear 11 = .ok (.iconst 0, 1) := by decide +kernel
theorem dX6_clear_12 : decode cX6_clear 12 = .ok (.putfield 51, 3) := by decide +kernel
theorem dX6_clear_15 : decode cX6_clear 15 = .ok (.aload_n 0, 1) := by decide +kernel
theorem dX6_clear_16 : decode cX6_clear 16 = .ok (.getfield 30, 3) := by decide +kernel
theorem dX6_clear_19 : decode cX6_clear 19 = .ok (.invokevirtual 54, 3) := by decide +kernel
theorem dX6_clear_22 : decode cX6_clear 22 = .ok (.return_, 1) := by decide +kernel
def TL_clear  (σ0 : St) : St := lt (si σ0 15 0) (fun σ1 => lt (si σ1 16 0) (fun σ2 => lt (si σ2 17 0) (fun σ3 => lt (Bits_clear σ3) (fun σ4 => σ4))))
abbrev rm_TL_clear : Room := { frames := 2, cells := 0, slots := 0, locals := 44 }
set_option maxHeartbeats 4000000 in
set_option maxRecDepth 100000 in
theorem k_TL_clear (l : Launch) (ad : Nat → Nat) (cI cJ cZ : ClassId)  {σ0 : St} {τ : St} (hf : TL_clear σ0 = τ) : CtV l yX6_clear (gws (.code yX6_clear cX6_clear 1 none)) (rm_TL_clear) (ty3 cI cJ cZ) (xw ad cI cJ) [.ref (ad 4)] σ0 τ := by
  refine CtV.of (by decide) (xw_ok ad cI cJ) (Nat.le_of_ble_eq_true rfl) ?_
  generalize hav : ([.ref (ad 4)] : List Value) = av
  intro p e s m below meth c D A hC ls hl hP hS
  obtain ⟨hx, hb, hr, hlocks, hml, hown, hts, hK, hN, hD, hA⟩ := id hC
  rw [← hav] at hl
  have hl : lv_has ls 1 [(0, .ref (ad 4))] := hl
  unfold TL_clear at hf
  obtain ⟨H, hH⟩ : ∃ z, z = s.heap := ⟨_, rfl⟩
  obtain ⟨locs, hlocs⟩ : ∃ z : List Loc, z = [] := ⟨_, rfl⟩
  rw [← hH] at hP
  have hS : va_S A s.heap H locs := by rw [hH, hlocs]; exact va_S.rf
  suffices hgoal : W p l e _ s m _ below meth c H locs 0 0 _ _ by rw [hH, hlocs] at hgoal; exact hgoal
  refine lv_aload_n hx hb dX6_clear_0 rfl (lv_at hl 0 rfl) ?_
  refine lv_iconst (v := 0) hx hb dX6_clear_1 (by decide) ?_
  refine xp_4_5 hC hP hS tw_213 dX6_clear_2 (fun H locs hP hS => ?_)
  obtain ⟨σ1, eσ1, hf⟩ := lt_e hf
  rw [← eσ1] at hP
  refine lv_aload_n hx hb dX6_clear_5 rfl (lv_at hl 0 rfl) ?_
  refine lv_iconst (v := 0) hx hb dX6_clear_6 (by decide) ?_
  refine xp_4_10 hC hP hS tw_219 dX6_clear_7 (fun H locs hP hS => ?_)
  obtain ⟨σ2, eσ2, hf⟩ := lt_e hf
  rw [← eσ2] at hP
  refine lv_aload_n hx hb dX6_clear_10 rfl (lv_at hl 0 rfl) ?_
  refine lv_iconst (v := 0) hx hb dX6_clear_11 (by decide) ?_
  refine xp_4_11 hC hP hS tw_220 dX6_clear_12 (fun H locs hP hS => ?_)
  obtain ⟨σ3, eσ3, hf⟩ := lt_e hf
  rw [← eσ3] at hP
  refine lv_aload_n hx hb dX6_clear_15 rfl (lv_at hl 0 rfl) ?_
  refine xg_4_7 hC hP tw_216 dX6_clear_16 ?_
  obtain ⟨σ4, eσ4, hf⟩ := lt_e hf
  refine cVv (As := []) (rest := []) hC (k_Bits_clear l ad cI cJ cZ eσ4.symm) yy_X5_clear tw_348 rfl rfl ⟨by decide, by decide⟩ hP hS (q0 := 5) (ci := 5) rfl rfl (xwa_5 ..) rfl hl.1 rfl (Nat.le_of_ble_eq_true rfl) dX6_clear_19 (fun H locs hP hS => ?_)
  have h2 := hf
  exact retV hx hb hr hlocks hP hS h2 dX6_clear_22
theorem dX6_forgetMeasures_0 : decode cX6_forgetMeasures 0 = .ok (.aload_n 0, 1) := by decide +kernel
theorem dX6_forgetMeasures_1 : decode cX6_forgetMeasures 1 = .ok (.iconst 0, 1) := by decide +kernel
theorem dX6_forgetMeasures_2 : decode cX6_forgetMeasures 2 = .ok (.putfield 51, 3) := by decide +kernel
theorem dX6_forgetMeasures_5 : decode cX6_forgetMeasures 5 = .ok (.return_, 1) := by decide +kernel
def TL_forgetMeasures  (σ0 : St) : St := lt (si σ0 17 0) (fun σ1 => σ1)
abbrev rm_TL_forgetMeasures : Room := { frames := 0, cells := 0, slots := 0, locals := 0 }
set_option maxHeartbeats 4000000 in
set_option maxRecDepth 100000 in
theorem k_TL_forgetMeasures (l : Launch) (ad : Nat → Nat) (cI cJ cZ : ClassId)  {σ0 : St} {τ : St} (hf : TL_forgetMeasures σ0 = τ) : CtV l yX6_forgetMeasures (gws (.code yX6_forgetMeasures cX6_forgetMeasures 1 none)) (rm_TL_forgetMeasures) (ty3 cI cJ cZ) (xw ad cI cJ) [.ref (ad 4)] σ0 τ := by
  refine CtV.of (by decide) (xw_ok ad cI cJ) (Nat.le_of_ble_eq_true rfl) ?_
  generalize hav : ([.ref (ad 4)] : List Value) = av
  intro p e s m below meth c D A hC ls hl hP hS
  obtain ⟨hx, hb, hr, hlocks, hml, hown, hts, hK, hN, hD, hA⟩ := id hC
  rw [← hav] at hl
  have hl : lv_has ls 1 [(0, .ref (ad 4))] := hl
  unfold TL_forgetMeasures at hf
  obtain ⟨H, hH⟩ : ∃ z, z = s.heap := ⟨_, rfl⟩
  obtain ⟨locs, hlocs⟩ : ∃ z : List Loc, z = [] := ⟨_, rfl⟩
  rw [← hH] at hP
  have hS : va_S A s.heap H locs := by rw [hH, hlocs]; exact va_S.rf
  suffices hgoal : W p l e _ s m _ below meth c H locs 0 0 _ _ by rw [hH, hlocs] at hgoal; exact hgoal
  refine lv_aload_n hx hb dX6_forgetMeasures_0 rfl (lv_at hl 0 rfl) ?_
  refine lv_iconst (v := 0) hx hb dX6_forgetMeasures_1 (by decide) ?_
  refine xp_4_11 hC hP hS tw_220 dX6_forgetMeasures_2 (fun H locs hP hS => ?_)
  obtain ⟨σ1, eσ1, hf⟩ := lt_e hf
  rw [← eσ1] at hP
  have h2 := hf
  exact retV hx hb hr hlocks hP hS h2 dX6_forgetMeasures_5
theorem dX6_placeOf_0 : decode cX6_placeOf 0 = .ok (.aload_n 0, 1) := by decide +kernel
theorem dX6_placeOf_1 : decode cX6_placeOf 1 = .ok (.getfield 30, 3) := by decide +kernel
theorem dX6_placeOf_4 : decode cX6_placeOf 4 = .ok (.iload_n 1, 1) := by decide +kernel
theorem dX6_placeOf_5 : decode cX6_placeOf 5 = .ok (.invokevirtual 75, 3) := by decide +kernel
theorem dX6_placeOf_8 : decode cX6_placeOf 8 = .ok (.ifCond .ne 5, 3) := by decide +kernel
theorem dX6_placeOf_11 : decode cX6_placeOf 11 = .ok (.iconst (-1), 1) := by decide +kernel
theorem dX6_placeOf_12 : decode cX6_placeOf 12 = .ok (.ireturn, 1) := by decide +kernel
theorem dX6_placeOf_13 : decode cX6_placeOf 13 = .ok (.aload_n 0, 1) := by decide +kernel
theorem dX6_placeOf_14 : decode cX6_placeOf 14 = .ok (.getfield 34, 3) := by decide +kernel
theorem dX6_placeOf_17 : decode cX6_placeOf 17 = .ok (.iload_n 1, 1) := by decide +kernel
theorem dX6_placeOf_18 : decode cX6_placeOf 18 = .ok (.bipush 6, 2) := by decide +kernel
theorem dX6_placeOf_20 : decode cX6_placeOf 20 = .ok (.ishr, 1) := by decide +kernel
theorem dX6_placeOf_21 : decode cX6_placeOf 21 = .ok (.iaload, 1) := by decide +kernel
theorem dX6_placeOf_22 : decode cX6_placeOf 22 = .ok (.aload_n 0, 1) := by decide +kernel
theorem dX6_placeOf_23 : decode cX6_placeOf 23 = .ok (.getfield 30, 3) := by decide +kernel
theorem dX6_placeOf_26 : decode cX6_placeOf 26 = .ok (.iload_n 1, 1) := by decide +kernel
theorem dX6_placeOf_27 : decode cX6_placeOf 27 = .ok (.invokevirtual 79, 3) := by decide +kernel
theorem dX6_placeOf_30 : decode cX6_placeOf 30 = .ok (.iadd, 1) := by decide +kernel
theorem dX6_placeOf_31 : decode cX6_placeOf 31 = .ok (.ireturn, 1) := by decide +kernel
def TL_placeOf (N : Nat) (x1 : Int32) (σ0 : St) : Option (Int32) := bnd (Bits_has N x1 σ0) (fun y1 => if y1 = 0 then some (-1) else grd (inb (x1 >>> (6 &&& 31)) 256) (bnd (Bits_lesserInWordOf N x1 σ0) (fun y4 => some ((σ0.2.1 11 ((x1 >>> (6 &&& 31))).toNatClampNeg) + y4))))
abbrev rm_TL_placeOf : Room := { frames := 2, cells := 0, slots := 0, locals := 42 }
set_option maxHeartbeats 4000000 in
set_option maxRecDepth 100000 in
theorem k_TL_placeOf (l : Launch) (ad : Nat → Nat) (cI cJ cZ : ClassId) {N : Nat} {x1 : Int32} {σ0 : St} {r : Int32} (hf : TL_placeOf N x1 σ0 = some r) : CtI l yX6_placeOf (gws (.code yX6_placeOf cX6_placeOf 2 (some .int))) (rm_TL_placeOf) (ty3 cI cJ cZ) (xw ad cI cJ) [.ref (ad 4), .int x1] σ0 r σ0 := by
  refine CtI.of (by decide) (xw_ok ad cI cJ) (Nat.le_of_ble_eq_true rfl) ?_
  generalize hav : ([.ref (ad 4), .int x1] : List Value) = av
  intro p e s m below meth c D A hC ls hl hP hS
  obtain ⟨hx, hb, hr, hlocks, hml, hown, hts, hK, hN, hD, hA⟩ := id hC
  rw [← hav] at hl
  have hl : lv_has ls 2 [(0, .ref (ad 4)), (1, .int x1)] := hl
  unfold TL_placeOf at hf
  obtain ⟨H, hH⟩ : ∃ z, z = s.heap := ⟨_, rfl⟩
  obtain ⟨locs, hlocs⟩ : ∃ z : List Loc, z = [] := ⟨_, rfl⟩
  rw [← hH] at hP
  have hS : va_S A s.heap H locs := by rw [hH, hlocs]; exact va_S.rf
  suffices hgoal : W p l e _ s m _ below meth c H locs 0 0 _ _ by rw [hH, hlocs] at hgoal; exact hgoal
  refine lv_aload_n hx hb dX6_placeOf_0 rfl (lv_at hl 0 rfl) ?_
  refine xg_4_7 hC hP tw_216 dX6_placeOf_1 ?_
  refine lv_iload_n hx hb dX6_placeOf_4 rfl (lv_at hl 1 rfl) ?_
  obtain ⟨y1, hcy1, hf⟩ := bnd_some hf
  refine cVi (As := [.int x1]) (rest := []) hC (k_Bits_has l ad cI cJ cZ hcy1) yy_X5_has tw_497 rfl rfl ⟨by decide, by decide⟩ hP hS (q0 := 5) (ci := 5) rfl rfl (xwa_5 ..) rfl hl.1 rfl (Nat.le_of_ble_eq_true rfl) dX6_placeOf_5 (fun H locs hP hS => ?_)
  refine lv_if_ne (tgt := 13) hx hb dX6_placeOf_8 (by decide) (fun c2 => ?_) (fun c2 => ?_)
  · rw [if_neg c2] at hf
    refine lv_aload_n hx hb dX6_placeOf_13 rfl (lv_at hl 0 rfl) ?_
    refine xg_4_8 hC hP tw_217 dX6_placeOf_14 ?_
    refine lv_iload_n hx hb dX6_placeOf_17 rfl (lv_at hl 1 rfl) ?_
    refine lv_bipush (v := 6) hx hb dX6_placeOf_18 (by decide) ?_
    refine lv_ishr hx hb dX6_placeOf_20 ?_
    obtain ⟨g3, hf⟩ := grd_some hf
    refine xl_20 hC hP g3 dX6_placeOf_21 ?_
    refine lv_aload_n hx hb dX6_placeOf_22 rfl (lv_at hl 0 rfl) ?_
    refine xg_4_7 hC hP tw_216 dX6_placeOf_23 ?_
    refine lv_iload_n hx hb dX6_placeOf_26 rfl (lv_at hl 1 rfl) ?_
    obtain ⟨y4, hcy4, hf⟩ := bnd_some hf
    refine cVi (As := [.int x1]) (rest := [.int (σ0.2.1 11 ((x1 >>> (6 &&& 31))).toNatClampNeg)]) hC (k_Bits_lesserInWordOf l ad cI cJ cZ hcy4) yy_X5_lesserInWordOf tw_501 rfl rfl ⟨by decide, by decide⟩ hP hS (q0 := 5) (ci := 5) rfl rfl (xwa_5 ..) rfl hl.1 rfl (Nat.le_of_ble_eq_true rfl) dX6_placeOf_27 (fun H locs hP hS => ?_)
    refine lv_iadd hx hb dX6_placeOf_30 ?_
    have h1 := Option.some.inj hf
    exact retI hx hb hr hlocks hP hS h1 rfl dX6_placeOf_31
  rw [if_pos c2] at hf
  refine lv_iconst (v := (-1)) hx hb dX6_placeOf_11 (by decide) ?_
  have h1 := Option.some.inj hf
  exact retI hx hb hr hlocks hP hS h1 rfl dX6_placeOf_12
theorem dX6_areJoined_0 : decode cX6_areJoined 0 = .ok (.aload_n 0, 1) := by decide +kernel
theorem dX6_areJoined_1 : decode cX6_areJoined 1 = .ok (.getfield 37, 3) := by decide +kernel
theorem dX6_areJoined_4 : decode cX6_areJoined 4 = .ok (.iload_n 2, 1) := by decide +kernel
theorem dX6_areJoined_5 : decode cX6_areJoined 5 = .ok (.bipush 8, 2) := by decide +kernel
theorem dX6_areJoined_7 : decode cX6_areJoined 7 = .ok (.imul, 1) := by decide +kernel
theorem dX6_areJoined_8 : decode cX6_areJoined 8 = .ok (.aload_n 0, 1) := by decide +kernel
theorem dX6_areJoined_9 : decode cX6_areJoined 9 = .ok (.getfield 40, 3) := by decide +kernel
theorem dX6_areJoined_12 : decode cX6_areJoined 12 = .ok (.getfield 106, 3) := by decide +kernel
theorem dX6_areJoined_15 : decode cX6_areJoined 15 = .ok (.iload_n 1, 1) := by decide +kernel
theorem dX6_areJoined_16 : decode cX6_areJoined 16 = .ok (.iaload, 1) := by decide +kernel
theorem dX6_areJoined_17 : decode cX6_areJoined 17 = .ok (.iadd, 1) := by decide +kernel
theorem dX6_areJoined_18 : decode cX6_areJoined 18 = .ok (.iaload, 1) := by decide +kernel
theorem dX6_areJoined_19 : decode cX6_areJoined 19 = .ok (.aload_n 0, 1) := by decide +kernel
theorem dX6_areJoined_20 : decode cX6_areJoined 20 = .ok (.getfield 40, 3) := by decide +kernel
theorem dX6_areJoined_23 : decode cX6_areJoined 23 = .ok (.getfield 109, 3) := by decide +kernel
theorem dX6_areJoined_26 : decode cX6_areJoined 26 = .ok (.iload_n 1, 1) := by decide +kernel
theorem dX6_areJoined_27 : decode cX6_areJoined 27 = .ok (.iaload, 1) := by decide +kernel
theorem dX6_areJoined_28 : decode cX6_areJoined 28 = .ok (.ishr, 1) := by decide +kernel
theorem dX6_areJoined_29 : decode cX6_areJoined 29 = .ok (.iconst 1, 1) := by decide +kernel
theorem dX6_areJoined_30 : decode cX6_areJoined 30 = .ok (.iand, 1) := by decide +kernel
theorem dX6_areJoined_31 : decode cX6_areJoined 31 = .ok (.ifCond .eq 7, 3) := by decide +kernel
theorem dX6_areJoined_34 : decode cX6_areJoined 34 = .ok (.iconst 1, 1) := by decide +kernel
theorem dX6_areJoined_35 : decode cX6_areJoined 35 = .ok (.goto 4, 3) := by decide +kernel
theorem dX6_areJoined_38 : decode cX6_areJoined 38 = .ok (.iconst 0, 1) := by decide +kernel
theorem dX6_areJoined_39 : decode cX6_areJoined 39 = .ok (.ireturn, 1) := by decide +kernel
def TL_areJoined (N : Nat) (x1 : Int32) (x2 : Int32) (σ0 : St) : Option (Int32) := grd (inb x1 14) (grd (inb ((x2 * 8) + (σ0.2.1 2 (x1).toNatClampNeg)) 64) (grd (inb x1 14) (if (((σ0.2.1 12 (((x2 * 8) + (σ0.2.1 2 (x1).toNatClampNeg))).toNatClampNeg) >>> ((σ0.2.1 3 (x1).toNatClampNeg) &&& 31)) &&& 1) = 0 then some 0 else some 1)))
abbrev rm_TL_areJoined : Room := { frames := 0, cells := 0, slots := 0, locals := 0 }
set_option maxHeartbeats 4000000 in
set_option maxRecDepth 100000 in
theorem k_TL_areJoined (l : Launch) (ad : Nat → Nat) (cI cJ cZ : ClassId) {N : Nat} {x1 : Int32} {x2 : Int32} {σ0 : St} {r : Int32} (hf : TL_areJoined N x1 x2 σ0 = some r) : CtI l yX6_areJoined (gws (.code yX6_areJoined cX6_areJoined 3 (some .boolean))) (rm_TL_areJoined) (ty3 cI cJ cZ) (xw ad cI cJ) [.ref (ad 4), .int x1, .int x2] σ0 r σ0 := by
  refine CtI.of (by decide) (xw_ok ad cI cJ) (Nat.le_of_ble_eq_true rfl) ?_
  generalize hav : ([.ref (ad 4), .int x1, .int x2] : List Value) = av
  intro p e s m below meth c D A hC ls hl hP hS
  obtain ⟨hx, hb, hr, hlocks, hml, hown, hts, hK, hN, hD, hA⟩ := id hC
  rw [← hav] at hl
  have hl : lv_has ls 3 [(0, .ref (ad 4)), (1, .int x1), (2, .int x2)] := hl
  unfold TL_areJoined at hf
  obtain ⟨H, hH⟩ : ∃ z, z = s.heap := ⟨_, rfl⟩
  obtain ⟨locs, hlocs⟩ : ∃ z : List Loc, z = [] := ⟨_, rfl⟩
  rw [← hH] at hP
  have hS : va_S A s.heap H locs := by rw [hH, hlocs]; exact va_S.rf
  suffices hgoal : W p l e _ s m _ below meth c H locs 0 0 _ _ by rw [hH, hlocs] at hgoal; exact hgoal
  refine lv_aload_n hx hb dX6_areJoined_0 rfl (lv_at hl 0 rfl) ?_
  refine xg_4_9 hC hP tw_218 dX6_areJoined_1 ?_
  refine lv_iload_n hx hb dX6_areJoined_4 rfl (lv_at hl 2 rfl) ?_
  refine lv_bipush (v := 8) hx hb dX6_areJoined_5 (by decide) ?_
  refine lv_imul hx hb dX6_areJoined_7 ?_
  refine lv_aload_n hx hb dX6_areJoined_8 rfl (lv_at hl 0 rfl) ?_
  refine xg_4_6 hC hP tw_215 dX6_areJoined_9 ?_
  refine xg_1_7 hC hP tw_87 dX6_areJoined_12 ?_
  refine lv_iload_n hx hb dX6_areJoined_15 rfl (lv_at hl 1 rfl) ?_
  obtain ⟨g1, hf⟩ := grd_some hf
  refine xl_11 hC hP g1 dX6_areJoined_16 ?_
  refine lv_iadd hx hb dX6_areJoined_17 ?_
  obtain ⟨g2, hf⟩ := grd_some hf
  refine xl_21 hC hP g2 dX6_areJoined_18 ?_
  refine lv_aload_n hx hb dX6_areJoined_19 rfl (lv_at hl 0 rfl) ?_
  refine xg_4_6 hC hP tw_215 dX6_areJoined_20 ?_
  refine xg_1_8 hC hP tw_91 dX6_areJoined_23 ?_
  refine lv_iload_n hx hb dX6_areJoined_26 rfl (lv_at hl 1 rfl) ?_
  obtain ⟨g3, hf⟩ := grd_some hf
  refine xl_12 hC hP g3 dX6_areJoined_27 ?_
  refine lv_ishr hx hb dX6_areJoined_28 ?_
  refine lv_iconst (v := 1) hx hb dX6_areJoined_29 (by decide) ?_
  refine lv_iand hx hb dX6_areJoined_30 ?_
  refine lv_if_eq (tgt := 38) hx hb dX6_areJoined_31 (by decide) (fun c4 => ?_) (fun c4 => ?_)
  · rw [if_pos c4] at hf
    refine lv_iconst (v := 0) hx hb dX6_areJoined_38 (by decide) ?_
    have h1 := Option.some.inj hf
    exact retZ hx hb hr hlocks hP hS (Or.inl rfl) h1 rfl dX6_areJoined_39
  rw [if_neg c4] at hf
  refine lv_iconst (v := 1) hx hb dX6_areJoined_34 (by decide) ?_
  refine lv_goto (tgt := 39) hx hb dX6_areJoined_35 (by decide) ?_
  have h1 := Option.some.inj hf
  exact retZ hx hb hr hlocks hP hS (Or.inr rfl) h1 rfl dX6_areJoined_39
theorem dX6_join_0 : decode cX6_join 0 = .ok (.iload_n 2, 1) := by decide +kernel
theorem dX6_join_1 : decode cX6_join 1 = .ok (.bipush 8, 2) := by decide +kernel
theorem dX6_join_3 : decode cX6_join 3 = .ok (.imul, 1) := by decide +kernel
theorem dX6_join_4 : decode cX6_join 4 = .ok (.istore_n 3, 1) := by decide +kernel
theorem dX6_join_5 : decode cX6_join 5 = .ok (.aload_n 0, 1) := by decide +kernel
theorem dX6_join_6 : decode cX6_join 6 = .ok (.getfield 37, 3) := by decide +kernel
theorem dX6_join_9 : decode cX6_join 9 = .ok (.iload_n 3, 1) := by decide +kernel
theorem dX6_join_10 : decode cX6_join 10 = .ok (.aload_n 0, 1) := by decide +kernel
theorem dX6_join_11 : decode cX6_join 11 = .ok (.getfield 40, 3) := by decide +kernel
theorem dX6_join_14 : decode cX6_join 14 = .ok (.getfield 106, 3) := by decide +kernel
theorem dX6_join_17 : decode cX6_join 17 = .ok (.iload_n 1, 1) := by decide +kernel
theorem dX6_join_18 : decode cX6_join 18 = .ok (.iaload, 1) := by decide +kernel
theorem dX6_join_19 : decode cX6_join 19 = .ok (.iadd, 1) := by decide +kernel
theorem dX6_join_20 : decode cX6_join 20 = .ok (.iaload, 1) := by decide +kernel
theorem dX6_join_21 : decode cX6_join 21 = .ok (.aload_n 0, 1) := by decide +kernel
theorem dX6_join_22 : decode cX6_join 22 = .ok (.getfield 37, 3) := by decide +kernel
theorem dX6_join_25 : decode cX6_join 25 = .ok (.iload_n 3, 1) := by decide +kernel
theorem dX6_join_26 : decode cX6_join 26 = .ok (.aload_n 0, 1) := by decide +kernel
theorem dX6_join_27 : decode cX6_join 27 = .ok (.getfield 40, 3) := by decide +kernel
theorem dX6_join_30 : decode cX6_join 30 = .ok (.getfield 109, 3) := by decide +kernel
theorem dX6_join_33 : decode cX6_join 33 = .ok (.iload_n 1, 1) := by decide +kernel
theorem dX6_join_34 : decode cX6_join 34 = .ok (.iaload, 1) := by decide +kernel
theorem dX6_join_35 : decode cX6_join 35 = .ok (.iadd, 1) := by decide +kernel
theorem dX6_join_36 : decode cX6_join 36 = .ok (.iaload, 1) := by decide +kernel
theorem dX6_join_37 : decode cX6_join 37 = .ok (.ior, 1) := by decide +kernel
theorem dX6_join_38 : decode cX6_join 38 = .ok (.istore 4, 2) := by decide +kernel
theorem dX6_join_40 : decode cX6_join 40 = .ok (.iconst 0, 1) := by decide +kernel
theorem dX6_join_41 : decode cX6_join 41 = .ok (.istore 5, 2) := by decide +kernel
theorem dX6_join_43 : decode cX6_join 43 = .ok (.iload 5, 2) := by decide +kernel
theorem dX6_join_45 : decode cX6_join 45 = .ok (.aload_n 0, 1) := by decide +kernel
theorem dX6_join_46 : decode cX6_join 46 = .ok (.getfield 40, 3) := by decide +kernel
theorem dX6_join_49 : decode cX6_join 49 = .ok (.getfield 88, 3) := by decide +kernel
theorem dX6_join_52 : decode cX6_join 52 = .ok (.if_icmp .ge 45, 3) := by decide +kernel
theorem dX6_join_55 : decode cX6_join 55 = .ok (.aload_n 0, 1) := by decide +kernel
theorem dX6_join_56 : decode cX6_join 56 = .ok (.getfield 37, 3) := by decide +kernel
theorem dX6_join_59 : decode cX6_join 59 = .ok (.iload_n 3, 1) := by decide +kernel
theorem dX6_join_60 : decode cX6_join 60 = .ok (.bipush 8, 2) := by decide +kernel
theorem dX6_join_62 : decode cX6_join 62 = .ok (.iadd, 1) := by decide +kernel
theorem dX6_join_63 : decode cX6_join 63 = .ok (.iload 5, 2) := by decide +kernel
theorem dX6_join_65 : decode cX6_join 65 = .ok (.iadd, 1) := by decide +kernel
theorem dX6_join_66 : decode cX6_join 66 = .ok (.iload 4, 2) := by decide +kernel
theorem dX6_join_68 : decode cX6_join 68 = .ok (.iload 5, 2) := by decide +kernel
theorem dX6_join_70 : decode cX6_join 70 = .ok (.ishr, 1) := by decide +kernel
theorem dX6_join_71 : decode cX6_join 71 = .ok (.iconst 1, 1) := by decide +kernel
theorem dX6_join_72 : decode cX6_join 72 = .ok (.iand, 1) := by decide +kernel
theorem dX6_join_73 : decode cX6_join 73 = .ok (.ifCond .eq 8, 3) := by decide +kernel
theorem dX6_join_76 : decode cX6_join 76 = .ok (.iload 4, 2) := by decide +kernel
theorem dX6_join_78 : decode cX6_join 78 = .ok (.goto 12, 3) := by decide +kernel
theorem dX6_join_81 : decode cX6_join 81 = .ok (.aload_n 0, 1) := by decide +kernel
theorem dX6_join_82 : decode cX6_join 82 = .ok (.getfield 37, 3) := by decide +kernel
theorem dX6_join_85 : decode cX6_join 85 = .ok (.iload_n 3, 1) := by decide +kernel
theorem dX6_join_86 : decode cX6_join 86 = .ok (.iload 5, 2) := by decide +kernel
theorem dX6_join_88 : decode cX6_join 88 = .ok (.iadd, 1) := by decide +kernel
theorem dX6_join_89 : decode cX6_join 89 = .ok (.iaload, 1) := by decide +kernel
theorem dX6_join_90 : decode cX6_join 90 = .ok (.iastore, 1) := by decide +kernel
theorem dX6_join_91 : decode cX6_join 91 = .ok (.iinc 5 1, 3) := by decide +kernel
theorem dX6_join_94 : decode cX6_join 94 = .ok (.goto (-51), 3) := by decide +kernel
theorem dX6_join_97 : decode cX6_join 97 = .ok (.return_, 1) := by decide +kernel
def TL_join_43 (N : Nat) : Nat → Int32 → Int32 → Int32 → St → Option (St)
  | 0, _, _, _, _ => none
  | n + 1, x3, x4, x5, σ => if (σ.1 0) ≤ x5 then some σ else if ((x4 >>> (x5 &&& 31)) &&& 1) = 0 then grd (inb (x3 + x5) 64) (grd (inb ((x3 + 8) + x5) 64) (lt (sa σ 12 (((x3 + 8) + x5)).toNatClampNeg (σ.2.1 12 ((x3 + x5)).toNatClampNeg)) (fun σ5 => TL_join_43 N n x3 x4 (x5 + 1) σ5))) else grd (inb ((x3 + 8) + x5) 64) (lt (sa σ 12 (((x3 + 8) + x5)).toNatClampNeg x4) (fun σ7 => TL_join_43 N n x3 x4 (x5 + 1) σ7))
theorem TL_join_43_s (N : Nat) (n : Nat) (x3 : Int32) (x4 : Int32) (x5 : Int32) (σ : St) : TL_join_43 N (n + 1) x3 x4 x5 σ = if (σ.1 0) ≤ x5 then some σ else if ((x4 >>> (x5 &&& 31)) &&& 1) = 0 then grd (inb (x3 + x5) 64) (grd (inb ((x3 + 8) + x5) 64) (lt (sa σ 12 (((x3 + 8) + x5)).toNatClampNeg (σ.2.1 12 ((x3 + x5)).toNatClampNeg)) (fun σ5 => TL_join_43 N n x3 x4 (x5 + 1) σ5))) else grd (inb ((x3 + 8) + x5) 64) (lt (sa σ 12 (((x3 + 8) + x5)).toNatClampNeg x4) (fun σ7 => TL_join_43 N n x3 x4 (x5 + 1) σ7)) := rfl
def TL_join (N : Nat) (x1 : Int32) (x2 : Int32) (σ0 : St) : Option (St) := grd (inb x1 14) (grd (inb ((x2 * 8) + (σ0.2.1 2 (x1).toNatClampNeg)) 64) (grd (inb x1 14) (grd (inb ((x2 * 8) + (σ0.2.1 3 (x1).toNatClampNeg)) 64) (lt (((σ0.2.1 12 (((x2 * 8) + (σ0.2.1 2 (x1).toNatClampNeg))).toNatClampNeg) ||| (σ0.2.1 12 (((x2 * 8) + (σ0.2.1 3 (x1).toNatClampNeg))).toNatClampNeg))) (fun y12 => TL_join_43 N N (x2 * 8) y12 0 σ0)))))
abbrev rm_TL_join : Room := { frames := 0, cells := 0, slots := 0, locals := 0 }
set_option maxHeartbeats 4000000 in
set_option maxRecDepth 100000 in
theorem k_TL_join (l : Launch) (ad : Nat → Nat) (cI cJ cZ : ClassId) {N : Nat} {x1 : Int32} {x2 : Int32} {σ0 : St} {τ : St} (hf : TL_join N x1 x2 σ0 = some τ) : CtV l yX6_join (gws (.code yX6_join cX6_join 6 none)) (rm_TL_join) (ty3 cI cJ cZ) (xw ad cI cJ) [.ref (ad 4), .int x1, .int x2] σ0 τ := by
  refine CtV.of (by decide) (xw_ok ad cI cJ) (Nat.le_of_ble_eq_true rfl) ?_
  generalize hav : ([.ref (ad 4), .int x1, .int x2] : List Value) = av
  intro p e s m below meth c D A hC ls hl hP hS
  obtain ⟨hx, hb, hr, hlocks, hml, hown, hts, hK, hN, hD, hA⟩ := id hC
  rw [← hav] at hl
  have hl : lv_has ls 6 [(0, .ref (ad 4)), (1, .int x1), (2, .int x2)] := hl
  unfold TL_join at hf
  have hw_43 : ∀ (n : Nat), ∀ (x3 : Int32) (x4 : Int32) (x5 : Int32) (σ : St) (H : Heap) (locs : List Loc) (ls : Array Slot), va_P D vwCl ((xw ad cI cJ) σ) H → va_S A s.heap H locs → lv_has ls 6 [(0, .ref (ad 4)), (3, .int x3), (4, .int x4), (5, .int x5)] → TL_join_43 N n x3 x4 x5 σ = some τ → W p l e (rm_TL_join) s m av.toArray below meth c H locs 0 0 (QV below av.toArray s D A (xw ad cI cJ) τ) (F0 m 43 ls []) := by
    intro n
    induction n with
    | zero =>
      intro x3 x4 x5 σ H locs ls hP hS hl hf
      cases hf
    | succ n ih =>
      intro x3 x4 x5 σ H locs ls hP hS hl hf
      rw [TL_join_43_s] at hf
      refine lv_iload hx hb dX6_join_43 (lv_at hl 3 rfl) ?_
      refine lv_aload_n hx hb dX6_join_45 rfl (lv_at hl 0 rfl) ?_
      refine xg_4_6 hC hP tw_215 dX6_join_46 ?_
      refine xg_1_0 hC hP tw_66 dX6_join_49 ?_
      refine lv_icmp_ge (tgt := 97) hx hb dX6_join_52 (by decide) (fun c1 => ?_) (fun c1 => ?_)
      · rw [if_pos c1] at hf
        have h2 := Option.some.inj hf
        exact retV hx hb hr hlocks hP hS h2 dX6_join_97
      rw [if_neg c1] at hf
      refine lv_aload_n hx hb dX6_join_55 rfl (lv_at hl 0 rfl) ?_
      refine xg_4_9 hC hP tw_218 dX6_join_56 ?_
      refine lv_iload_n hx hb dX6_join_59 rfl (lv_at hl 1 rfl) ?_
      refine lv_bipush (v := 8) hx hb dX6_join_60 (by decide) ?_
      refine lv_iadd hx hb dX6_join_62 ?_
      refine lv_iload hx hb dX6_join_63 (lv_at hl 3 rfl) ?_
      refine lv_iadd hx hb dX6_join_65 ?_
      refine lv_iload hx hb dX6_join_66 (lv_at hl 2 rfl) ?_
      refine lv_iload hx hb dX6_join_68 (lv_at hl 3 rfl) ?_
      refine lv_ishr hx hb dX6_join_70 ?_
      refine lv_iconst (v := 1) hx hb dX6_join_71 (by decide) ?_
      refine lv_iand hx hb dX6_join_72 ?_
      refine lv_if_eq (tgt := 81) hx hb dX6_join_73 (by decide) (fun c2 => ?_) (fun c2 => ?_)
      · rw [if_pos c2] at hf
        refine lv_aload_n hx hb dX6_join_81 rfl (lv_at hl 0 rfl) ?_
        refine xg_4_9 hC hP tw_218 dX6_join_82 ?_
        refine lv_iload_n hx hb dX6_join_85 rfl (lv_at hl 1 rfl) ?_
        refine lv_iload hx hb dX6_join_86 (lv_at hl 3 rfl) ?_
        refine lv_iadd hx hb dX6_join_88 ?_
        obtain ⟨g3, hf⟩ := grd_some hf
        refine xl_21 hC hP g3 dX6_join_89 ?_
        obtain ⟨g4, hf⟩ := grd_some hf
        refine xs_21 hC hP hS g4 dX6_join_90 (fun H locs hP hS => ?_)
        obtain ⟨σ5, eσ5, hf⟩ := lt_e hf
        rw [← eσ5] at hP
        refine lv_iinc (v := (x5 + 1)) (lv' := [(5, .int (x5 + 1)), (0, .ref (ad 4)), (3, .int x3), (4, .int x4)]) hx hb dX6_join_91 hl (k := 3) rfl rfl (by decide) rfl (fun ls hl => ?_)
        refine lv_goto (tgt := 43) hx hb dX6_join_94 (by decide) ?_
        exact ih x3 x4 (x5 + 1) σ5 H locs ls hP hS (lv_sub hl [1, 2, 3, 0] rfl) hf
      rw [if_neg c2] at hf
      refine lv_iload hx hb dX6_join_76 (lv_at hl 2 rfl) ?_
      refine lv_goto (tgt := 90) hx hb dX6_join_78 (by decide) ?_
      obtain ⟨g6, hf⟩ := grd_some hf
      refine xs_21 hC hP hS g6 dX6_join_90 (fun H locs hP hS => ?_)
      obtain ⟨σ7, eσ7, hf⟩ := lt_e hf
      rw [← eσ7] at hP
      refine lv_iinc (v := (x5 + 1)) (lv' := [(5, .int (x5 + 1)), (0, .ref (ad 4)), (3, .int x3), (4, .int x4)]) hx hb dX6_join_91 hl (k := 3) rfl rfl (by decide) rfl (fun ls hl => ?_)
      refine lv_goto (tgt := 43) hx hb dX6_join_94 (by decide) ?_
      exact ih x3 x4 (x5 + 1) σ7 H locs ls hP hS (lv_sub hl [1, 2, 3, 0] rfl) hf
  obtain ⟨H, hH⟩ : ∃ z, z = s.heap := ⟨_, rfl⟩
  obtain ⟨locs, hlocs⟩ : ∃ z : List Loc, z = [] := ⟨_, rfl⟩
  rw [← hH] at hP
  have hS : va_S A s.heap H locs := by rw [hH, hlocs]; exact va_S.rf
  suffices hgoal : W p l e _ s m _ below meth c H locs 0 0 _ _ by rw [hH, hlocs] at hgoal; exact hgoal
  refine lv_iload_n hx hb dX6_join_0 rfl (lv_at hl 2 rfl) ?_
  refine lv_bipush (v := 8) hx hb dX6_join_1 (by decide) ?_
  refine lv_imul hx hb dX6_join_3 ?_
  refine lv_istore_n (lv' := [(3, .int (x2 * 8)), (0, .ref (ad 4)), (1, .int x1), (2, .int x2)]) hx hb dX6_join_4 rfl hl (by decide) rfl (fun ls hl => ?_)
  refine lv_aload_n hx hb dX6_join_5 rfl (lv_at hl 1 rfl) ?_
  refine xg_4_9 hC hP tw_218 dX6_join_6 ?_
  refine lv_iload_n hx hb dX6_join_9 rfl (lv_at hl 0 rfl) ?_
  refine lv_aload_n hx hb dX6_join_10 rfl (lv_at hl 1 rfl) ?_
  refine xg_4_6 hC hP tw_215 dX6_join_11 ?_
  refine xg_1_7 hC hP tw_87 dX6_join_14 ?_
  refine lv_iload_n hx hb dX6_join_17 rfl (lv_at hl 2 rfl) ?_
  obtain ⟨g8, hf⟩ := grd_some hf
  refine xl_11 hC hP g8 dX6_join_18 ?_
  refine lv_iadd hx hb dX6_join_19 ?_
  obtain ⟨g9, hf⟩ := grd_some hf
  refine xl_21 hC hP g9 dX6_join_20 ?_
  refine lv_aload_n hx hb dX6_join_21 rfl (lv_at hl 1 rfl) ?_
  refine xg_4_9 hC hP tw_218 dX6_join_22 ?_
  refine lv_iload_n hx hb dX6_join_25 rfl (lv_at hl 0 rfl) ?_
  refine lv_aload_n hx hb dX6_join_26 rfl (lv_at hl 1 rfl) ?_
  refine xg_4_6 hC hP tw_215 dX6_join_27 ?_
  refine xg_1_8 hC hP tw_91 dX6_join_30 ?_
  refine lv_iload_n hx hb dX6_join_33 rfl (lv_at hl 2 rfl) ?_
  obtain ⟨g10, hf⟩ := grd_some hf
  refine xl_12 hC hP g10 dX6_join_34 ?_
  refine lv_iadd hx hb dX6_join_35 ?_
  obtain ⟨g11, hf⟩ := grd_some hf
  refine xl_21 hC hP g11 dX6_join_36 ?_
  refine lv_ior hx hb dX6_join_37 ?_
  obtain ⟨y12, ey12, hf⟩ := lt_e hf
  rw [← ey12]
  refine lv_istore (lv' := [(4, .int y12), (3, .int (x2 * 8)), (0, .ref (ad 4)), (1, .int x1), (2, .int x2)]) hx hb dX6_join_38 hl (by decide) rfl (fun ls hl => ?_)
  refine lv_iconst (v := 0) hx hb dX6_join_40 (by decide) ?_
  refine lv_istore (lv' := [(5, .int 0), (4, .int y12), (3, .int (x2 * 8)), (0, .ref (ad 4)), (1, .int x1), (2, .int x2)]) hx hb dX6_join_41 hl (by decide) rfl (fun ls hl => ?_)
  exact hw_43 N (x2 * 8) y12 0 σ0 H locs ls hP hS (lv_sub hl [3, 2, 1, 0] rfl) hf
theorem dX6_add_0 : decode cX6_add 0 = .ok (.aload_n 0, 1) := by decide +kernel
theorem dX6_add_1 : decode cX6_add 1 = .ok (.getfield 44, 3) := by decide +kernel
theorem dX6_add_4 : decode cX6_add 4 = .ok (.sipush 1280, 3) := by decide +kernel
theorem dX6_add_7 : decode cX6_add 7 = .ok (.if_icmp .lt 4, 3) := by decide +kernel
theorem dX6_add_10 : decode cX6_add 10 = .ok (.return_, 1) := by decide +kernel
theorem dX6_add_11 : decode cX6_add 11 = .ok (.aload_n 0, 1) := by decide +kernel
theorem dX6_add_12 : decode cX6_add 12 = .ok (.getfield 30, 3) := by decide +kernel
theorem dX6_add_15 : decode cX6_add 15 = .ok (.iload_n 1, 1) := by decide +kernel
theorem dX6_add_16 : decode cX6_add 16 = .ok (.invokevirtual 112, 3) := by decide +kernel
theorem dX6_add_19 : decode cX6_add 19 = .ok (.ifCond .ne 16, 3) := by decide +kernel
theorem dX6_add_22 : decode cX6_add 22 = .ok (.aload_n 0, 1) := by decide +kernel
theorem dX6_add_23 : decode cX6_add 23 = .ok (.getfield 34, 3) := by decide +kernel
theorem dX6_add_26 : decode cX6_add 26 = .ok (.iload_n 1, 1) := by decide +kernel
theorem dX6_add_27 : decode cX6_add 27 = .ok (.bipush 6, 2) := by decide +kernel
theorem dX6_add_29 : decode cX6_add 29 = .ok (.ishr, 1) := by decide +kernel
theorem dX6_add_30 : decode cX6_add 30 = .ok (.aload_n 0, 1) := by decide +kernel
theorem dX6_add_31 : decode cX6_add 31 = .ok (.getfield 44, 3) := by decide +kernel
theorem dX6_add_34 : decode cX6_add 34 = .ok (.iastore, 1) := by decide +kernel
theorem dX6_add_35 : decode cX6_add 35 = .ok (.aload_n 0, 1) := by decide +kernel
theorem dX6_add_36 : decode cX6_add 36 = .ok (.getfield 30, 3) := by decide +kernel
theorem dX6_add_39 : decode cX6_add 39 = .ok (.iload_n 1, 1) := by decide +kernel
theorem dX6_add_40 : decode cX6_add 40 = .ok (.invokevirtual 115, 3) := by decide +kernel
theorem dX6_add_43 : decode cX6_add 43 = .ok (.aload_n 0, 1) := by decide +kernel
theorem dX6_add_44 : decode cX6_add 44 = .ok (.getfield 9, 3) := by decide +kernel
theorem dX6_add_47 : decode cX6_add 47 = .ok (.aload_n 0, 1) := by decide +kernel
theorem dX6_add_48 : decode cX6_add 48 = .ok (.getfield 44, 3) := by decide +kernel
theorem dX6_add_51 : decode cX6_add 51 = .ok (.iload_n 1, 1) := by decide +kernel
theorem dX6_add_52 : decode cX6_add 52 = .ok (.iastore, 1) := by decide +kernel
theorem dX6_add_53 : decode cX6_add 53 = .ok (.aload_n 0, 1) := by decide +kernel
theorem dX6_add_54 : decode cX6_add 54 = .ok (.dup, 1) := by decide +kernel
theorem dX6_add_55 : decode cX6_add 55 = .ok (.getfield 44, 3) := by decide +kernel
theorem dX6_add_58 : decode cX6_add 58 = .ok (.iconst 1, 1) := by decide +kernel
theorem dX6_add_59 : decode cX6_add 59 = .ok (.iadd, 1) := by decide +kernel
theorem dX6_add_60 : decode cX6_add 60 = .ok (.putfield 44, 3) := by decide +kernel
theorem dX6_add_63 : decode cX6_add 63 = .ok (.return_, 1) := by decide +kernel
def TL_add_35 (N : Nat) (x1 : Int32) (σ : St) : Option (St) := bnd (Bits_put N x1 σ) (fun σ1 => grd (inb (σ1.1 15) 1280) (lt (sa σ1 6 ((σ1.1 15)).toNatClampNeg x1) (fun σ3 => lt (si σ3 15 ((σ3.1 15) + 1)) (fun σ4 => some σ4))))
def TL_add (N : Nat) (x1 : Int32) (σ0 : St) : Option (St) := if (σ0.1 15) < 1280 then bnd (Bits_hasInWordOf N x1 σ0) (fun y6 => if y6 = 0 then grd (inb (x1 >>> (6 &&& 31)) 256) (lt (sa σ0 11 ((x1 >>> (6 &&& 31))).toNatClampNeg (σ0.1 15)) (fun σ9 => TL_add_35 N x1 σ9)) else TL_add_35 N x1 σ0) else some σ0
abbrev rm_TL_add : Room := { frames := 1, cells := 0, slots := 0, locals := 21 }
set_option maxHeartbeats 4000000 in
set_option maxRecDepth 100000 in
theorem k_TL_add (l : Launch) (ad : Nat → Nat) (cI cJ cZ : ClassId) {N : Nat} {x1 : Int32} {σ0 : St} {τ : St} (hf : TL_add N x1 σ0 = some τ) : CtV l yX6_add (gws (.code yX6_add cX6_add 2 none)) (rm_TL_add) (ty3 cI cJ cZ) (xw ad cI cJ) [.ref (ad 4), .int x1] σ0 τ := by
  refine CtV.of (by decide) (xw_ok ad cI cJ) (Nat.le_of_ble_eq_true rfl) ?_
  generalize hav : ([.ref (ad 4), .int x1] : List Value) = av
  intro p e s m below meth c D A hC ls hl hP hS
  obtain ⟨hx, hb, hr, hlocks, hml, hown, hts, hK, hN, hD, hA⟩ := id hC
  rw [← hav] at hl
  have hl : lv_has ls 2 [(0, .ref (ad 4)), (1, .int x1)] := hl
  unfold TL_add at hf
  have hw_35 : ∀ (x1 : Int32) (σ : St) (H : Heap) (locs : List Loc) (ls : Array Slot), va_P D vwCl ((xw ad cI cJ) σ) H → va_S A s.heap H locs → lv_has ls 2 [(0, .ref (ad 4)), (1, .int x1)] → TL_add_35 N x1 σ = some τ → W p l e (rm_TL_add) s m av.toArray below meth c H locs 0 0 (QV below av.toArray s D A (xw ad cI cJ) τ) (F0 m 35 ls []) := by
    intro x1 σ H locs ls hP hS hl hf
    unfold TL_add_35 at hf
    refine lv_aload_n hx hb dX6_add_35 rfl (lv_at hl 0 rfl) ?_
    refine xg_4_7 hC hP tw_216 dX6_add_36 ?_
    refine lv_iload_n hx hb dX6_add_39 rfl (lv_at hl 1 rfl) ?_
    obtain ⟨σ1, hcσ1, hf⟩ := bnd_some hf
    refine cVv (As := [.int x1]) (rest := []) hC (k_Bits_put l ad cI cJ cZ hcσ1) yy_X5_put tw_485 rfl rfl ⟨by decide, by decide⟩ hP hS (q0 := 5) (ci := 5) rfl rfl (xwa_5 ..) rfl hl.1 rfl (Nat.le_of_ble_eq_true rfl) dX6_add_40 (fun H locs hP hS => ?_)
    refine lv_aload_n hx hb dX6_add_43 rfl (lv_at hl 0 rfl) ?_
    refine xg_4_0 hC hP tw_199 dX6_add_44 ?_
    refine lv_aload_n hx hb dX6_add_47 rfl (lv_at hl 0 rfl) ?_
    refine xg_4_5 hC hP tw_213 dX6_add_48 ?_
    refine lv_iload_n hx hb dX6_add_51 rfl (lv_at hl 1 rfl) ?_
    obtain ⟨g2, hf⟩ := grd_some hf
    refine xs_15 hC hP hS g2 dX6_add_52 (fun H locs hP hS => ?_)
    obtain ⟨σ3, eσ3, hf⟩ := lt_e hf
    rw [← eσ3] at hP
    refine lv_aload_n hx hb dX6_add_53 rfl (lv_at hl 0 rfl) ?_
    refine lv_dup hx hb dX6_add_54 rfl ?_
    refine xg_4_5 hC hP tw_213 dX6_add_55 ?_
    refine lv_iconst (v := 1) hx hb dX6_add_58 (by decide) ?_
    refine lv_iadd hx hb dX6_add_59 ?_
    refine xp_4_5 hC hP hS tw_213 dX6_add_60 (fun H locs hP hS => ?_)
    obtain ⟨σ4, eσ4, hf⟩ := lt_e hf
    rw [← eσ4] at hP
    have h2 := Option.some.inj hf
    exact retV hx hb hr hlocks hP hS h2 dX6_add_63
  obtain ⟨H, hH⟩ : ∃ z, z = s.heap := ⟨_, rfl⟩
  obtain ⟨locs, hlocs⟩ : ∃ z : List Loc, z = [] := ⟨_, rfl⟩
  rw [← hH] at hP
  have hS : va_S A s.heap H locs := by rw [hH, hlocs]; exact va_S.rf
  suffices hgoal : W p l e _ s m _ below meth c H locs 0 0 _ _ by rw [hH, hlocs] at hgoal; exact hgoal
  refine lv_aload_n hx hb dX6_add_0 rfl (lv_at hl 0 rfl) ?_
  refine xg_4_5 hC hP tw_213 dX6_add_1 ?_
  refine lv_sipush (v := 1280) hx hb dX6_add_4 (by decide) ?_
  refine lv_icmp_lt (tgt := 11) hx hb dX6_add_7 (by decide) (fun c5 => ?_) (fun c5 => ?_)
  · rw [if_pos c5] at hf
    refine lv_aload_n hx hb dX6_add_11 rfl (lv_at hl 0 rfl) ?_
    refine xg_4_7 hC hP tw_216 dX6_add_12 ?_
    refine lv_iload_n hx hb dX6_add_15 rfl (lv_at hl 1 rfl) ?_
    obtain ⟨y6, hcy6, hf⟩ := bnd_some hf
    refine cVi (As := [.int x1]) (rest := []) hC (k_Bits_hasInWordOf l ad cI cJ cZ hcy6) yy_X5_hasInWordOf tw_481 rfl rfl ⟨by decide, by decide⟩ hP hS (q0 := 5) (ci := 5) rfl rfl (xwa_5 ..) rfl hl.1 rfl (Nat.le_of_ble_eq_true rfl) dX6_add_16 (fun H locs hP hS => ?_)
    refine lv_if_ne (tgt := 35) hx hb dX6_add_19 (by decide) (fun c7 => ?_) (fun c7 => ?_)
    · rw [if_neg c7] at hf
      exact hw_35 x1 σ0 H locs ls hP hS (lv_sub hl [0, 1] rfl) hf
    rw [if_pos c7] at hf
    refine lv_aload_n hx hb dX6_add_22 rfl (lv_at hl 0 rfl) ?_
    refine xg_4_8 hC hP tw_217 dX6_add_23 ?_
    refine lv_iload_n hx hb dX6_add_26 rfl (lv_at hl 1 rfl) ?_
    refine lv_bipush (v := 6) hx hb dX6_add_27 (by decide) ?_
    refine lv_ishr hx hb dX6_add_29 ?_
    refine lv_aload_n hx hb dX6_add_30 rfl (lv_at hl 0 rfl) ?_
    refine xg_4_5 hC hP tw_213 dX6_add_31 ?_
    obtain ⟨g8, hf⟩ := grd_some hf
    refine xs_20 hC hP hS g8 dX6_add_34 (fun H locs hP hS => ?_)
    obtain ⟨σ9, eσ9, hf⟩ := lt_e hf
    rw [← eσ9] at hP
    exact hw_35 x1 σ9 H locs ls hP hS (lv_sub hl [0, 1] rfl) hf
  rw [if_neg c5] at hf
  have h2 := Option.some.inj hf
  exact retV hx hb hr hlocks hP hS h2 dX6_add_10
theorem dX6_grow_0 : decode cX6_grow 0 = .ok (.aload_n 0, 1) := by decide +kernel
theorem dX6_grow_1 : decode cX6_grow 1 = .ok (.getfield 40, 3) := by decide +kernel
theorem dX6_grow_4 : decode cX6_grow 4 = .ok (.getfield 88, 3) := by decide +kernel
theorem dX6_grow_7 : decode cX6_grow 7 = .ok (.iconst 1, 1) := by decide +kernel
theorem dX6_grow_8 : decode cX6_grow 8 = .ok (.isub, 1) := by decide +kernel
theorem dX6_grow_9 : decode cX6_grow 9 = .ok (.iload_n 1, 1) := by decide +kernel
theorem dX6_grow_10 : decode cX6_grow 10 = .ok (.isub, 1) := by decide +kernel
theorem dX6_grow_11 : decode cX6_grow 11 = .ok (.istore 5, 2) := by decide +kernel
theorem dX6_grow_13 : decode cX6_grow 13 = .ok (.iload_n 2, 1) := by decide +kernel
theorem dX6_grow_14 : decode cX6_grow 14 = .ok (.istore 6, 2) := by decide +kernel
theorem dX6_grow_16 : decode cX6_grow 16 = .ok (.iload 6, 2) := by decide +kernel
theorem dX6_grow_18 : decode cX6_grow 18 = .ok (.iload_n 3, 1) := by decide +kernel
theorem dX6_grow_19 : decode cX6_grow 19 = .ok (.if_icmp .ge 69, 3) := by decide +kernel
theorem dX6_grow_22 : decode cX6_grow 22 = .ok (.aload_n 0, 1) := by decide +kernel
theorem dX6_grow_23 : decode cX6_grow 23 = .ok (.iload 6, 2) := by decide +kernel
theorem dX6_grow_25 : decode cX6_grow 25 = .ok (.iload_n 1, 1) := by decide +kernel
theorem dX6_grow_26 : decode cX6_grow 26 = .ok (.invokevirtual 95, 3) := by decide +kernel
theorem dX6_grow_29 : decode cX6_grow 29 = .ok (.ifCond .eq 6, 3) := by decide +kernel
theorem dX6_grow_32 : decode cX6_grow 32 = .ok (.goto 50, 3) := by decide +kernel
theorem dX6_grow_35 : decode cX6_grow 35 = .ok (.iload 5, 2) := by decide +kernel
theorem dX6_grow_37 : decode cX6_grow 37 = .ok (.iconst 1, 1) := by decide +kernel
theorem dX6_grow_38 : decode cX6_grow 38 = .ok (.if_icmp .gt 17, 3) := by decide +kernel
theorem dX6_grow_41 : decode cX6_grow 41 = .ok (.aload_n 0, 1) := by decide +kernel
theorem dX6_grow_42 : decode cX6_grow 42 = .ok (.iload 4, 2) := by decide +kernel
theorem dX6_grow_44 : decode cX6_grow 44 = .ok (.iconst 1, 1) := by decide +kernel
theorem dX6_grow_45 : decode cX6_grow 45 = .ok (.iload 6, 2) := by decide +kernel
theorem dX6_grow_47 : decode cX6_grow 47 = .ok (.ishl, 1) := by decide +kernel
theorem dX6_grow_48 : decode cX6_grow 48 = .ok (.ior, 1) := by decide +kernel
theorem dX6_grow_49 : decode cX6_grow 49 = .ok (.invokevirtual 99, 3) := by decide +kernel
theorem dX6_grow_52 : decode cX6_grow 52 = .ok (.goto 30, 3) := by decide +kernel
theorem dX6_grow_55 : decode cX6_grow 55 = .ok (.aload_n 0, 1) := by decide +kernel
theorem dX6_grow_56 : decode cX6_grow 56 = .ok (.iload 6, 2) := by decide +kernel
theorem dX6_grow_58 : decode cX6_grow 58 = .ok (.iload_n 1, 1) := by decide +kernel
theorem dX6_grow_59 : decode cX6_grow 59 = .ok (.invokevirtual 102, 3) := by decide +kernel
theorem dX6_grow_62 : decode cX6_grow 62 = .ok (.aload_n 0, 1) := by decide +kernel
theorem dX6_grow_63 : decode cX6_grow 63 = .ok (.iload_n 1, 1) := by decide +kernel
theorem dX6_grow_64 : decode cX6_grow 64 = .ok (.iconst 1, 1) := by decide +kernel
theorem dX6_grow_65 : decode cX6_grow 65 = .ok (.iadd, 1) := by decide +kernel
theorem dX6_grow_66 : decode cX6_grow 66 = .ok (.iload 5, 2) := by decide +kernel
theorem dX6_grow_68 : decode cX6_grow 68 = .ok (.iconst 2, 1) := by decide +kernel
theorem dX6_grow_69 : decode cX6_grow 69 = .ok (.isub, 1) := by decide +kernel
theorem dX6_grow_70 : decode cX6_grow 70 = .ok (.iload 6, 2) := by decide +kernel
theorem dX6_grow_72 : decode cX6_grow 72 = .ok (.iload 4, 2) := by decide +kernel
theorem dX6_grow_74 : decode cX6_grow 74 = .ok (.iconst 1, 1) := by decide +kernel
theorem dX6_grow_75 : decode cX6_grow 75 = .ok (.iload 6, 2) := by decide +kernel
theorem dX6_grow_77 : decode cX6_grow 77 = .ok (.ishl, 1) := by decide +kernel
theorem dX6_grow_78 : decode cX6_grow 78 = .ok (.ior, 1) := by decide +kernel
theorem dX6_grow_79 : decode cX6_grow 79 = .ok (.invokevirtual 91, 3) := by decide +kernel
theorem dX6_grow_82 : decode cX6_grow 82 = .ok (.iinc 6 1, 3) := by decide +kernel
theorem dX6_grow_85 : decode cX6_grow 85 = .ok (.goto (-69), 3) := by decide +kernel
theorem dX6_grow_88 : decode cX6_grow 88 = .ok (.return_, 1) := by decide +kernel
def TL_grow_16 (N : Nat) (rc : Int32 → Int32 → Int32 → Int32 → St → Option (St)) : Nat → Int32 → Int32 → Int32 → Int32 → Int32 → St → Option (St)
  | 0, _, _, _, _, _, _ => none
  | n + 1, x1, x3, x4, x5, x6, σ => if x3 ≤ x6 then some σ else bnd (TL_areJoined N x6 x1 σ) (fun y2 => if y2 = 0 then if 1 < x5 then bnd (TL_join N x6 x1 σ) (fun σ5 => bnd (rc (x1 + 1) (x5 - 2) x6 (x4 ||| ((1 : Int32) <<< (x6 &&& 31))) σ5) (fun σ6 => TL_grow_16 N rc n x1 x3 x4 x5 (x6 + 1) σ6)) else bnd (TL_add N (x4 ||| ((1 : Int32) <<< (x6 &&& 31))) σ) (fun σ7 => TL_grow_16 N rc n x1 x3 x4 x5 (x6 + 1) σ7) else TL_grow_16 N rc n x1 x3 x4 x5 (x6 + 1) σ)
theorem TL_grow_16_s (N : Nat) (rc : Int32 → Int32 → Int32 → Int32 → St → Option (St)) (n : Nat) (x1 : Int32) (x3 : Int32) (x4 : Int32) (x5 : Int32) (x6 : Int32) (σ : St) : TL_grow_16 N rc (n + 1) x1 x3 x4 x5 x6 σ = if x3 ≤ x6 then some σ else bnd (TL_areJoined N x6 x1 σ) (fun y2 => if y2 = 0 then if 1 < x5 then bnd (TL_join N x6 x1 σ) (fun σ5 => bnd (rc (x1 + 1) (x5 - 2) x6 (x4 ||| ((1 : Int32) <<< (x6 &&& 31))) σ5) (fun σ6 => TL_grow_16 N rc n x1 x3 x4 x5 (x6 + 1) σ6)) else bnd (TL_add N (x4 ||| ((1 : Int32) <<< (x6 &&& 31))) σ) (fun σ7 => TL_grow_16 N rc n x1 x3 x4 x5 (x6 + 1) σ7) else TL_grow_16 N rc n x1 x3 x4 x5 (x6 + 1) σ) := rfl
def TL_grow_b (N : Nat) (rc : Int32 → Int32 → Int32 → Int32 → St → Option (St)) (x1 : Int32) (x2 : Int32) (x3 : Int32) (x4 : Int32) (σ0 : St) : Option (St) := TL_grow_16 N rc N x1 x3 x4 (((σ0.1 0) - 1) - x1) x2 σ0
def TL_grow (N : Nat) : Nat → Int32 → Int32 → Int32 → Int32 → St → Option (St)
  | 0, _, _, _, _, _ => none
  | dd + 1, x1, x2, x3, x4, σ0 => TL_grow_b N (TL_grow N dd) x1 x2 x3 x4 σ0
theorem TL_grow_s (N dd : Nat) (x1 : Int32) (x2 : Int32) (x3 : Int32) (x4 : Int32) (σ0 : St) : TL_grow N (dd + 1) x1 x2 x3 x4 σ0 = TL_grow_b N (TL_grow N dd) x1 x2 x3 x4 σ0 := rfl
def rm_TL_grow (dd : Nat) : Room := { frames := 2 + dd, cells := 0, slots := 0, locals := 42 + dd * 26 }
set_option maxHeartbeats 4000000 in
set_option maxRecDepth 100000 in
theorem k_TL_grow (l : Launch) (ad : Nat → Nat) (cI cJ cZ : ClassId) {N : Nat} : ∀ (dd : Nat) (x1 : Int32) (x2 : Int32) (x3 : Int32) (x4 : Int32) (σ0 : St) (τ : St), TL_grow N dd x1 x2 x3 x4 σ0 = some τ → CtV l yX6_grow (gws (.code yX6_grow cX6_grow 7 none)) (rm_TL_grow dd) (ty3 cI cJ cZ) (xw ad cI cJ) [.ref (ad 4), .int x1, .int x2, .int x3, .int x4] σ0 τ := by
  intro dd
  induction dd with
  | zero =>
    intro x1 x2 x3 x4 σ0 τ hf
    cases hf
  | succ dd hrec =>
    intro x1 x2 x3 x4 σ0 τ hf
    rw [TL_grow_s] at hf
    unfold TL_grow_b at hf
    generalize hrc : TL_grow N dd = rc at hf hrec
    refine CtV.of (by decide) (xw_ok ad cI cJ) (Nat.le_of_ble_eq_true rfl) ?_
    generalize hav : ([.ref (ad 4), .int x1, .int x2, .int x3, .int x4] : List Value) = av
    intro p e s m below meth c D A hC ls hl hP hS
    obtain ⟨hx, hb, hr, hlocks, hml, hown, hts, hK, hN, hD, hA⟩ := id hC
    rw [← hav] at hl
    have hl : lv_has ls 7 [(0, .ref (ad 4)), (1, .int x1), (2, .int x2), (3, .int x3), (4, .int x4)] := hl
    have hw_16 : ∀ (n : Nat), ∀ (x1 : Int32) (x3 : Int32) (x4 : Int32) (x5 : Int32) (x6 : Int32) (σ : St) (H : Heap) (locs : List Loc) (ls : Array Slot), va_P D vwCl ((xw ad cI cJ) σ) H → va_S A s.heap H locs → lv_has ls 7 [(0, .ref (ad 4)), (1, .int x1), (3, .int x3), (4, .int x4), (5, .int x5), (6, .int x6)] → TL_grow_16 N rc n x1 x3 x4 x5 x6 σ = some τ → W p l e (rm_TL_grow (dd + 1)) s m av.toArray below meth c H locs 0 0 (QV below av.toArray s D A (xw ad cI cJ) τ) (F0 m 16 ls []) := by
      intro n
      induction n with
      | zero =>
        intro x1 x3 x4 x5 x6 σ H locs ls hP hS hl hf
        cases hf
      | succ n ih =>
        intro x1 x3 x4 x5 x6 σ H locs ls hP hS hl hf
        rw [TL_grow_16_s] at hf
        refine lv_iload hx hb dX6_grow_16 (lv_at hl 5 rfl) ?_
        refine lv_iload_n hx hb dX6_grow_18 rfl (lv_at hl 2 rfl) ?_
        refine lv_icmp_ge (tgt := 88) hx hb dX6_grow_19 (by decide) (fun c1 => ?_) (fun c1 => ?_)
        · rw [if_pos c1] at hf
          have h2 := Option.some.inj hf
          exact retV hx hb hr hlocks hP hS h2 dX6_grow_88
        rw [if_neg c1] at hf
        refine lv_aload_n hx hb dX6_grow_22 rfl (lv_at hl 0 rfl) ?_
        refine lv_iload hx hb dX6_grow_23 (lv_at hl 5 rfl) ?_
        refine lv_iload_n hx hb dX6_grow_25 rfl (lv_at hl 1 rfl) ?_
        obtain ⟨y2, hcy2, hf⟩ := bnd_some hf
        refine cVi (As := [.int x6, .int x1]) (rest := []) hC (k_TL_areJoined l ad cI cJ cZ hcy2) yy_X6_areJoined tw_473 rfl rfl ⟨by simp only [rm_TL_grow]; omega, by simp only [rm_TL_grow]; omega⟩ hP hS (q0 := 4) (ci := 6) rfl rfl (xwa_4 ..) rfl hl.1 rfl (Nat.le_of_ble_eq_true rfl) dX6_grow_26 (fun H locs hP hS => ?_)
        refine lv_if_eq (tgt := 35) hx hb dX6_grow_29 (by decide) (fun c3 => ?_) (fun c3 => ?_)
        · rw [if_pos c3] at hf
          refine lv_iload hx hb dX6_grow_35 (lv_at hl 4 rfl) ?_
          refine lv_iconst (v := 1) hx hb dX6_grow_37 (by decide) ?_
          refine lv_icmp_gt (tgt := 55) hx hb dX6_grow_38 (by decide) (fun c4 => ?_) (fun c4 => ?_)
          · rw [if_pos c4] at hf
            refine lv_aload_n hx hb dX6_grow_55 rfl (lv_at hl 0 rfl) ?_
            refine lv_iload hx hb dX6_grow_56 (lv_at hl 5 rfl) ?_
            refine lv_iload_n hx hb dX6_grow_58 rfl (lv_at hl 1 rfl) ?_
            obtain ⟨σ5, hcσ5, hf⟩ := bnd_some hf
            refine cVv (As := [.int x6, .int x1]) (rest := []) hC (k_TL_join l ad cI cJ cZ hcσ5) yy_X6_join tw_489 rfl rfl ⟨by simp only [rm_TL_grow]; omega, by simp only [rm_TL_grow]; omega⟩ hP hS (q0 := 4) (ci := 6) rfl rfl (xwa_4 ..) rfl hl.1 rfl (Nat.le_of_ble_eq_true rfl) dX6_grow_59 (fun H locs hP hS => ?_)
            refine lv_aload_n hx hb dX6_grow_62 rfl (lv_at hl 0 rfl) ?_
            refine lv_iload_n hx hb dX6_grow_63 rfl (lv_at hl 1 rfl) ?_
            refine lv_iconst (v := 1) hx hb dX6_grow_64 (by decide) ?_
            refine lv_iadd hx hb dX6_grow_65 ?_
            refine lv_iload hx hb dX6_grow_66 (lv_at hl 4 rfl) ?_
            refine lv_iconst (v := 2) hx hb dX6_grow_68 (by decide) ?_
            refine lv_isub hx hb dX6_grow_69 ?_
            refine lv_iload hx hb dX6_grow_70 (lv_at hl 5 rfl) ?_
            refine lv_iload hx hb dX6_grow_72 (lv_at hl 3 rfl) ?_
            refine lv_iconst (v := 1) hx hb dX6_grow_74 (by decide) ?_
            refine lv_iload hx hb dX6_grow_75 (lv_at hl 5 rfl) ?_
            refine lv_ishl hx hb dX6_grow_77 ?_
            refine lv_ior hx hb dX6_grow_78 ?_
            obtain ⟨σ6, hcσ6, hf⟩ := bnd_some hf
            refine cVv (As := [.int (x1 + 1), .int (x5 - 2), .int x6, .int (x4 ||| ((1 : Int32) <<< (x6 &&& 31)))]) (rest := []) hC (hrec _ _ _ _ _ _ hcσ6) yy_X6_grow tw_469 rfl rfl ⟨by simp only [rm_TL_grow]; omega, by simp only [rm_TL_grow]; omega⟩ hP hS (q0 := 4) (ci := 6) rfl rfl (xwa_4 ..) rfl hl.1 rfl (Nat.le_of_ble_eq_true rfl) dX6_grow_79 (fun H locs hP hS => ?_)
            refine lv_iinc (v := (x6 + 1)) (lv' := [(6, .int (x6 + 1)), (0, .ref (ad 4)), (1, .int x1), (3, .int x3), (4, .int x4), (5, .int x5)]) hx hb dX6_grow_82 hl (k := 5) rfl rfl (by decide) rfl (fun ls hl => ?_)
            refine lv_goto (tgt := 16) hx hb dX6_grow_85 (by decide) ?_
            exact ih x1 x3 x4 x5 (x6 + 1) σ6 H locs ls hP hS (lv_sub hl [1, 2, 3, 4, 5, 0] rfl) hf
          rw [if_neg c4] at hf
          refine lv_aload_n hx hb dX6_grow_41 rfl (lv_at hl 0 rfl) ?_
          refine lv_iload hx hb dX6_grow_42 (lv_at hl 3 rfl) ?_
          refine lv_iconst (v := 1) hx hb dX6_grow_44 (by decide) ?_
          refine lv_iload hx hb dX6_grow_45 (lv_at hl 5 rfl) ?_
          refine lv_ishl hx hb dX6_grow_47 ?_
          refine lv_ior hx hb dX6_grow_48 ?_
          obtain ⟨σ7, hcσ7, hf⟩ := bnd_some hf
          refine cVv (As := [.int (x4 ||| ((1 : Int32) <<< (x6 &&& 31)))]) (rest := []) hC (k_TL_add l ad cI cJ cZ hcσ7) yy_X6_add tw_477 rfl rfl ⟨by simp only [rm_TL_grow]; omega, by simp only [rm_TL_grow]; omega⟩ hP hS (q0 := 4) (ci := 6) rfl rfl (xwa_4 ..) rfl hl.1 rfl (Nat.le_of_ble_eq_true rfl) dX6_grow_49 (fun H locs hP hS => ?_)
          refine lv_goto (tgt := 82) hx hb dX6_grow_52 (by decide) ?_
          refine lv_iinc (v := (x6 + 1)) (lv' := [(6, .int (x6 + 1)), (0, .ref (ad 4)), (1, .int x1), (3, .int x3), (4, .int x4), (5, .int x5)]) hx hb dX6_grow_82 hl (k := 5) rfl rfl (by decide) rfl (fun ls hl => ?_)
          refine lv_goto (tgt := 16) hx hb dX6_grow_85 (by decide) ?_
          exact ih x1 x3 x4 x5 (x6 + 1) σ7 H locs ls hP hS (lv_sub hl [1, 2, 3, 4, 5, 0] rfl) hf
        rw [if_neg c3] at hf
        refine lv_goto (tgt := 82) hx hb dX6_grow_32 (by decide) ?_
        refine lv_iinc (v := (x6 + 1)) (lv' := [(6, .int (x6 + 1)), (0, .ref (ad 4)), (1, .int x1), (3, .int x3), (4, .int x4), (5, .int x5)]) hx hb dX6_grow_82 hl (k := 5) rfl rfl (by decide) rfl (fun ls hl => ?_)
        refine lv_goto (tgt := 16) hx hb dX6_grow_85 (by decide) ?_
        exact ih x1 x3 x4 x5 (x6 + 1) σ H locs ls hP hS (lv_sub hl [1, 2, 3, 4, 5, 0] rfl) hf
    obtain ⟨H, hH⟩ : ∃ z, z = s.heap := ⟨_, rfl⟩
    obtain ⟨locs, hlocs⟩ : ∃ z : List Loc, z = [] := ⟨_, rfl⟩
    rw [← hH] at hP
    have hS : va_S A s.heap H locs := by rw [hH, hlocs]; exact va_S.rf
    suffices hgoal : W p l e _ s m _ below meth c H locs 0 0 _ _ by rw [hH, hlocs] at hgoal; exact hgoal
    refine lv_aload_n hx hb dX6_grow_0 rfl (lv_at hl 0 rfl) ?_
    refine xg_4_6 hC hP tw_215 dX6_grow_1 ?_
    refine xg_1_0 hC hP tw_66 dX6_grow_4 ?_
    refine lv_iconst (v := 1) hx hb dX6_grow_7 (by decide) ?_
    refine lv_isub hx hb dX6_grow_8 ?_
    refine lv_iload_n hx hb dX6_grow_9 rfl (lv_at hl 1 rfl) ?_
    refine lv_isub hx hb dX6_grow_10 ?_
    refine lv_istore (lv' := [(5, .int (((σ0.1 0) - 1) - x1)), (0, .ref (ad 4)), (1, .int x1), (2, .int x2), (3, .int x3), (4, .int x4)]) hx hb dX6_grow_11 hl (by decide) rfl (fun ls hl => ?_)
    refine lv_iload_n hx hb dX6_grow_13 rfl (lv_at hl 3 rfl) ?_
    refine lv_istore (lv' := [(6, .int x2), (5, .int (((σ0.1 0) - 1) - x1)), (0, .ref (ad 4)), (1, .int x1), (2, .int x2), (3, .int x3), (4, .int x4)]) hx hb dX6_grow_14 hl (by decide) rfl (fun ls hl => ?_)
    exact hw_16 N x1 x3 x4 (((σ0.1 0) - 1) - x1) x2 σ0 H locs ls hP hS (lv_sub hl [2, 3, 5, 6, 1, 0] rfl) hf
theorem dX6_catchUp_0 : decode cX6_catchUp 0 = .ok (.aload_n 0, 1) := by decide +kernel
theorem dX6_catchUp_1 : decode cX6_catchUp 1 = .ok (.getfield 48, 3) := by decide +kernel
theorem dX6_catchUp_4 : decode cX6_catchUp 4 = .ok (.istore_n 1, 1) := by decide +kernel
theorem dX6_catchUp_5 : decode cX6_catchUp 5 = .ok (.iload_n 1, 1) := by decide +kernel
theorem dX6_catchUp_6 : decode cX6_catchUp 6 = .ok (.aload_n 0, 1) := by decide +kernel
theorem dX6_catchUp_7 : decode cX6_catchUp 7 = .ok (.getfield 40, 3) := by decide +kernel
theorem dX6_catchUp_10 : decode cX6_catchUp 10 = .ok (.getfield 83, 3) := by decide +kernel
theorem dX6_catchUp_13 : decode cX6_catchUp 13 = .ok (.if_icmp .ge 47, 3) := by decide +kernel
theorem dX6_catchUp_16 : decode cX6_catchUp 16 = .ok (.iconst 0, 1) := by decide +kernel
theorem dX6_catchUp_17 : decode cX6_catchUp 17 = .ok (.istore_n 2, 1) := by decide +kernel
theorem dX6_catchUp_18 : decode cX6_catchUp 18 = .ok (.iload_n 2, 1) := by decide +kernel
theorem dX6_catchUp_19 : decode cX6_catchUp 19 = .ok (.aload_n 0, 1) := by decide +kernel
theorem dX6_catchUp_20 : decode cX6_catchUp 20 = .ok (.getfield 40, 3) := by decide +kernel
theorem dX6_catchUp_23 : decode cX6_catchUp 23 = .ok (.getfield 88, 3) := by decide +kernel
theorem dX6_catchUp_26 : decode cX6_catchUp 26 = .ok (.if_icmp .ge 18, 3) := by decide +kernel
theorem dX6_catchUp_29 : decode cX6_catchUp 29 = .ok (.aload_n 0, 1) := by decide +kernel
theorem dX6_catchUp_30 : decode cX6_catchUp 30 = .ok (.getfield 37, 3) := by decide +kernel
theorem dX6_catchUp_33 : decode cX6_catchUp 33 = .ok (.iload_n 2, 1) := by decide +kernel
theorem dX6_catchUp_34 : decode cX6_catchUp 34 = .ok (.iconst 1, 1) := by decide +kernel
theorem dX6_catchUp_35 : decode cX6_catchUp 35 = .ok (.iload_n 2, 1) := by decide +kernel
theorem dX6_catchUp_36 : decode cX6_catchUp 36 = .ok (.ishl, 1) := by decide +kernel
theorem dX6_catchUp_37 : decode cX6_catchUp 37 = .ok (.iastore, 1) := by decide +kernel
theorem dX6_catchUp_38 : decode cX6_catchUp 38 = .ok (.iinc 2 1, 3) := by decide +kernel
theorem dX6_catchUp_41 : decode cX6_catchUp 41 = .ok (.goto (-23), 3) := by decide +kernel
theorem dX6_catchUp_44 : decode cX6_catchUp 44 = .ok (.aload_n 0, 1) := by decide +kernel
theorem dX6_catchUp_45 : decode cX6_catchUp 45 = .ok (.iconst 0, 1) := by decide +kernel
theorem dX6_catchUp_46 : decode cX6_catchUp 46 = .ok (.iload_n 1, 1) := by decide +kernel
theorem dX6_catchUp_47 : decode cX6_catchUp 47 = .ok (.iload_n 1, 1) := by decide +kernel
theorem dX6_catchUp_48 : decode cX6_catchUp 48 = .ok (.iconst 1, 1) := by decide +kernel
theorem dX6_catchUp_49 : decode cX6_catchUp 49 = .ok (.iadd, 1) := by decide +kernel
theorem dX6_catchUp_50 : decode cX6_catchUp 50 = .ok (.iconst 0, 1) := by decide +kernel
theorem dX6_catchUp_51 : decode cX6_catchUp 51 = .ok (.invokevirtual 91, 3) := by decide +kernel
theorem dX6_catchUp_54 : decode cX6_catchUp 54 = .ok (.iinc 1 1, 3) := by decide +kernel
theorem dX6_catchUp_57 : decode cX6_catchUp 57 = .ok (.goto (-52), 3) := by decide +kernel
theorem dX6_catchUp_60 : decode cX6_catchUp 60 = .ok (.aload_n 0, 1) := by decide +kernel
theorem dX6_catchUp_61 : decode cX6_catchUp 61 = .ok (.aload_n 0, 1) := by decide +kernel
theorem dX6_catchUp_62 : decode cX6_catchUp 62 = .ok (.getfield 40, 3) := by decide +kernel
theorem dX6_catchUp_65 : decode cX6_catchUp 65 = .ok (.getfield 83, 3) := by decide +kernel
theorem dX6_catchUp_68 : decode cX6_catchUp 68 = .ok (.putfield 48, 3) := by decide +kernel
theorem dX6_catchUp_71 : decode cX6_catchUp 71 = .ok (.return_, 1) := by decide +kernel
def TL_catchUp_18 (N : Nat) (k_44 : Int32 → St → Option (St)) : Nat → Int32 → Int32 → St → Option (St)
  | 0, _, _, _ => none
  | n + 1, x1, x2, σ => if (σ.1 0) ≤ x2 then k_44 x1 σ else grd (inb x2 64) (lt (sa σ 12 (x2).toNatClampNeg ((1 : Int32) <<< (x2 &&& 31))) (fun σ3 => TL_catchUp_18 N k_44 n x1 (x2 + 1) σ3))
theorem TL_catchUp_18_s (N : Nat) (k_44 : Int32 → St → Option (St)) (n : Nat) (x1 : Int32) (x2 : Int32) (σ : St) : TL_catchUp_18 N k_44 (n + 1) x1 x2 σ = if (σ.1 0) ≤ x2 then k_44 x1 σ else grd (inb x2 64) (lt (sa σ 12 (x2).toNatClampNeg ((1 : Int32) <<< (x2 &&& 31))) (fun σ3 => TL_catchUp_18 N k_44 n x1 (x2 + 1) σ3)) := rfl
def TL_catchUp_44 (N : Nat) (k_5 : Int32 → St → Option (St)) (x1 : Int32) (σ : St) : Option (St) := bnd (TL_grow N 8 0 x1 (x1 + 1) 0 σ) (fun σ4 => k_5 (x1 + 1) σ4)
def TL_catchUp_5 (N : Nat) (k_60 : St → Option (St)) : Nat → Int32 → St → Option (St)
  | 0, _, _ => none
  | n + 1, x1, σ => if (σ.1 2) ≤ x1 then k_60 σ else TL_catchUp_18 N (TL_catchUp_44 N (TL_catchUp_5 N k_60 n)) N x1 0 σ
theorem TL_catchUp_5_s (N : Nat) (k_60 : St → Option (St)) (n : Nat) (x1 : Int32) (σ : St) : TL_catchUp_5 N k_60 (n + 1) x1 σ = if (σ.1 2) ≤ x1 then k_60 σ else TL_catchUp_18 N (TL_catchUp_44 N (TL_catchUp_5 N k_60 n)) N x1 0 σ := rfl
def TL_catchUp_60 (N : Nat)  (σ : St) : Option (St) := lt (si σ 16 (σ.1 2)) (fun σ6 => some σ6)
def TL_catchUp (N : Nat)  (σ0 : St) : Option (St) := TL_catchUp_5 N (TL_catchUp_60 N) N (σ0.1 16) σ0
abbrev rm_TL_catchUp : Room := { frames := 11, cells := 0, slots := 0, locals := 276 }
set_option maxHeartbeats 4000000 in
set_option maxRecDepth 100000 in
theorem k_TL_catchUp (l : Launch) (ad : Nat → Nat) (cI cJ cZ : ClassId) {N : Nat}  {σ0 : St} {τ : St} (hf : TL_catchUp N σ0 = some τ) : CtV l yX6_catchUp (gws (.code yX6_catchUp cX6_catchUp 3 none)) (rm_TL_catchUp) (ty3 cI cJ cZ) (xw ad cI cJ) [.ref (ad 4)] σ0 τ := by
  refine CtV.of (by decide) (xw_ok ad cI cJ) (Nat.le_of_ble_eq_true rfl) ?_
  generalize hav : ([.ref (ad 4)] : List Value) = av
  intro p e s m below meth c D A hC ls hl hP hS
  obtain ⟨hx, hb, hr, hlocks, hml, hown, hts, hK, hN, hD, hA⟩ := id hC
  rw [← hav] at hl
  have hl : lv_has ls 3 [(0, .ref (ad 4))] := hl
  unfold TL_catchUp at hf
  have hw_18 : ∀ (k_44 : Int32 → St → Option (St)) (hk_44 : ∀ (x1 : Int32) (σ : St) (H : Heap) (locs : List Loc) (ls : Array Slot), va_P D vwCl ((xw ad cI cJ) σ) H → va_S A s.heap H locs → lv_has ls 3 [(0, .ref (ad 4)), (1, .int x1)] → k_44 x1 σ = some τ → W p l e (rm_TL_catchUp) s m av.toArray below meth c H locs 0 0 (QV below av.toArray s D A (xw ad cI cJ) τ) (F0 m 44 ls [])), ∀ (n : Nat), ∀ (x1 : Int32) (x2 : Int32) (σ : St) (H : Heap) (locs : List Loc) (ls : Array Slot), va_P D vwCl ((xw ad cI cJ) σ) H → va_S A s.heap H locs → lv_has ls 3 [(0, .ref (ad 4)), (1, .int x1), (2, .int x2)] → TL_catchUp_18 N k_44 n x1 x2 σ = some τ → W p l e (rm_TL_catchUp) s m av.toArray below meth c H locs 0 0 (QV below av.toArray s D A (xw ad cI cJ) τ) (F0 m 18 ls []) := by
    intro k_44 hk_44
    intro n
    induction n with
    | zero =>
      intro x1 x2 σ H locs ls hP hS hl hf
      cases hf
    | succ n ih =>
      intro x1 x2 σ H locs ls hP hS hl hf
      rw [TL_catchUp_18_s] at hf
      refine lv_iload_n hx hb dX6_catchUp_18 rfl (lv_at hl 2 rfl) ?_
      refine lv_aload_n hx hb dX6_catchUp_19 rfl (lv_at hl 0 rfl) ?_
      refine xg_4_6 hC hP tw_215 dX6_catchUp_20 ?_
      refine xg_1_0 hC hP tw_66 dX6_catchUp_23 ?_
      refine lv_icmp_ge (tgt := 44) hx hb dX6_catchUp_26 (by decide) (fun c1 => ?_) (fun c1 => ?_)
      · rw [if_pos c1] at hf
        exact hk_44 x1 σ H locs ls hP hS (lv_sub hl [0, 1] rfl) hf
      rw [if_neg c1] at hf
      refine lv_aload_n hx hb dX6_catchUp_29 rfl (lv_at hl 0 rfl) ?_
      refine xg_4_9 hC hP tw_218 dX6_catchUp_30 ?_
      refine lv_iload_n hx hb dX6_catchUp_33 rfl (lv_at hl 2 rfl) ?_
      refine lv_iconst (v := 1) hx hb dX6_catchUp_34 (by decide) ?_
      refine lv_iload_n hx hb dX6_catchUp_35 rfl (lv_at hl 2 rfl) ?_
      refine lv_ishl hx hb dX6_catchUp_36 ?_
      obtain ⟨g2, hf⟩ := grd_some hf
      refine xs_21 hC hP hS g2 dX6_catchUp_37 (fun H locs hP hS => ?_)
      obtain ⟨σ3, eσ3, hf⟩ := lt_e hf
      rw [← eσ3] at hP
      refine lv_iinc (v := (x2 + 1)) (lv' := [(2, .int (x2 + 1)), (0, .ref (ad 4)), (1, .int x1)]) hx hb dX6_catchUp_38 hl (k := 2) rfl rfl (by decide) rfl (fun ls hl => ?_)
      refine lv_goto (tgt := 18) hx hb dX6_catchUp_41 (by decide) ?_
      exact ih x1 (x2 + 1) σ3 H locs ls hP hS (lv_sub hl [1, 2, 0] rfl) hf
  have hw_44 : ∀ (k_5 : Int32 → St → Option (St)) (hk_5 : ∀ (x1 : Int32) (σ : St) (H : Heap) (locs : List Loc) (ls : Array Slot), va_P D vwCl ((xw ad cI cJ) σ) H → va_S A s.heap H locs → lv_has ls 3 [(0, .ref (ad 4)), (1, .int x1)] → k_5 x1 σ = some τ → W p l e (rm_TL_catchUp) s m av.toArray below meth c H locs 0 0 (QV below av.toArray s D A (xw ad cI cJ) τ) (F0 m 5 ls [])), ∀ (x1 : Int32) (σ : St) (H : Heap) (locs : List Loc) (ls : Array Slot), va_P D vwCl ((xw ad cI cJ) σ) H → va_S A s.heap H locs → lv_has ls 3 [(0, .ref (ad 4)), (1, .int x1)] → TL_catchUp_44 N k_5 x1 σ = some τ → W p l e (rm_TL_catchUp) s m av.toArray below meth c H locs 0 0 (QV below av.toArray s D A (xw ad cI cJ) τ) (F0 m 44 ls []) := by
    intro k_5 hk_5 x1 σ H locs ls hP hS hl hf
    unfold TL_catchUp_44 at hf
    refine lv_aload_n hx hb dX6_catchUp_44 rfl (lv_at hl 0 rfl) ?_
    refine lv_iconst (v := 0) hx hb dX6_catchUp_45 (by decide) ?_
    refine lv_iload_n hx hb dX6_catchUp_46 rfl (lv_at hl 1 rfl) ?_
    refine lv_iload_n hx hb dX6_catchUp_47 rfl (lv_at hl 1 rfl) ?_
    refine lv_iconst (v := 1) hx hb dX6_catchUp_48 (by decide) ?_
    refine lv_iadd hx hb dX6_catchUp_49 ?_
    refine lv_iconst (v := 0) hx hb dX6_catchUp_50 (by decide) ?_
    obtain ⟨σ4, hcσ4, hf⟩ := bnd_some hf
    refine cVv (As := [.int 0, .int x1, .int (x1 + 1), .int 0]) (rest := []) hC (k_TL_grow l ad cI cJ cZ 8 _ _ _ _ _ _ hcσ4) yy_X6_grow tw_469 rfl rfl ⟨by decide, by decide⟩ hP hS (q0 := 4) (ci := 6) rfl rfl (xwa_4 ..) rfl hl.1 rfl (Nat.le_of_ble_eq_true rfl) dX6_catchUp_51 (fun H locs hP hS => ?_)
    refine lv_iinc (v := (x1 + 1)) (lv' := [(1, .int (x1 + 1)), (0, .ref (ad 4))]) hx hb dX6_catchUp_54 hl (k := 1) rfl rfl (by decide) rfl (fun ls hl => ?_)
    refine lv_goto (tgt := 5) hx hb dX6_catchUp_57 (by decide) ?_
    exact hk_5 (x1 + 1) σ4 H locs ls hP hS (lv_sub hl [1, 0] rfl) hf
  have hw_5 : ∀ (k_60 : St → Option (St)) (hk_60 : ∀  (σ : St) (H : Heap) (locs : List Loc) (ls : Array Slot), va_P D vwCl ((xw ad cI cJ) σ) H → va_S A s.heap H locs → lv_has ls 3 [(0, .ref (ad 4))] → k_60 σ = some τ → W p l e (rm_TL_catchUp) s m av.toArray below meth c H locs 0 0 (QV below av.toArray s D A (xw ad cI cJ) τ) (F0 m 60 ls [])), ∀ (n : Nat), ∀ (x1 : Int32) (σ : St) (H : Heap) (locs : List Loc) (ls : Array Slot), va_P D vwCl ((xw ad cI cJ) σ) H → va_S A s.heap H locs → lv_has ls 3 [(0, .ref (ad 4)), (1, .int x1)] → TL_catchUp_5 N k_60 n x1 σ = some τ → W p l e (rm_TL_catchUp) s m av.toArray below meth c H locs 0 0 (QV below av.toArray s D A (xw ad cI cJ) τ) (F0 m 5 ls []) := by
    intro k_60 hk_60
    intro n
    induction n with
    | zero =>
      intro x1 σ H locs ls hP hS hl hf
      cases hf
    | succ n ih =>
      intro x1 σ H locs ls hP hS hl hf
      rw [TL_catchUp_5_s] at hf
      refine lv_iload_n hx hb dX6_catchUp_5 rfl (lv_at hl 1 rfl) ?_
      refine lv_aload_n hx hb dX6_catchUp_6 rfl (lv_at hl 0 rfl) ?_
      refine xg_4_6 hC hP tw_215 dX6_catchUp_7 ?_
      refine xg_1_2 hC hP tw_73 dX6_catchUp_10 ?_
      refine lv_icmp_ge (tgt := 60) hx hb dX6_catchUp_13 (by decide) (fun c5 => ?_) (fun c5 => ?_)
      · rw [if_pos c5] at hf
        exact hk_60 σ H locs ls hP hS (lv_sub hl [0] rfl) hf
      rw [if_neg c5] at hf
      refine lv_iconst (v := 0) hx hb dX6_catchUp_16 (by decide) ?_
      refine lv_istore_n (lv' := [(2, .int 0), (0, .ref (ad 4)), (1, .int x1)]) hx hb dX6_catchUp_17 rfl hl (by decide) rfl (fun ls hl => ?_)
      exact hw_18 (TL_catchUp_44 N (TL_catchUp_5 N k_60 n)) (hw_44 (TL_catchUp_5 N k_60 n) ih) N x1 0 σ H locs ls hP hS (lv_sub hl [1, 2, 0] rfl) hf
  have hw_60 : ∀  (σ : St) (H : Heap) (locs : List Loc) (ls : Array Slot), va_P D vwCl ((xw ad cI cJ) σ) H → va_S A s.heap H locs → lv_has ls 3 [(0, .ref (ad 4))] → TL_catchUp_60 N σ = some τ → W p l e (rm_TL_catchUp) s m av.toArray below meth c H locs 0 0 (QV below av.toArray s D A (xw ad cI cJ) τ) (F0 m 60 ls []) := by
    intro σ H locs ls hP hS hl hf
    unfold TL_catchUp_60 at hf
    refine lv_aload_n hx hb dX6_catchUp_60 rfl (lv_at hl 0 rfl) ?_
    refine lv_aload_n hx hb dX6_catchUp_61 rfl (lv_at hl 0 rfl) ?_
    refine xg_4_6 hC hP tw_215 dX6_catchUp_62 ?_
    refine xg_1_2 hC hP tw_73 dX6_catchUp_65 ?_
    refine xp_4_10 hC hP hS tw_219 dX6_catchUp_68 (fun H locs hP hS => ?_)
    obtain ⟨σ6, eσ6, hf⟩ := lt_e hf
    rw [← eσ6] at hP
    have h2 := Option.some.inj hf
    exact retV hx hb hr hlocks hP hS h2 dX6_catchUp_71
  obtain ⟨H, hH⟩ : ∃ z, z = s.heap := ⟨_, rfl⟩
  obtain ⟨locs, hlocs⟩ : ∃ z : List Loc, z = [] := ⟨_, rfl⟩
  rw [← hH] at hP
  have hS : va_S A s.heap H locs := by rw [hH, hlocs]; exact va_S.rf
  suffices hgoal : W p l e _ s m _ below meth c H locs 0 0 _ _ by rw [hH, hlocs] at hgoal; exact hgoal
  refine lv_aload_n hx hb dX6_catchUp_0 rfl (lv_at hl 0 rfl) ?_
  refine xg_4_10 hC hP tw_219 dX6_catchUp_1 ?_
  refine lv_istore_n (lv' := [(1, .int (σ0.1 16)), (0, .ref (ad 4))]) hx hb dX6_catchUp_4 rfl hl (by decide) rfl (fun ls hl => ?_)
  exact hw_5 (TL_catchUp_60 N) hw_60 N (σ0.1 16) σ0 H locs ls hP hS (lv_sub hl [1, 0] rfl) hf
theorem dX6_measureAll_0 : decode cX6_measureAll 0 = .ok (.aload_n 0, 1) := by decide +kernel
theorem dX6_measureAll_1 : decode cX6_measureAll 1 = .ok (.getfield 51, 3) := by decide +kernel
theorem dX6_measureAll_4 : decode cX6_measureAll 4 = .ok (.istore_n 2, 1) := by decide +kernel
theorem dX6_measureAll_5 : decode cX6_measureAll 5 = .ok (.iload_n 2, 1) := by decide +kernel
theorem dX6_measureAll_6 : decode cX6_measureAll 6 = .ok (.aload_n 0, 1) := by decide +kernel
theorem dX6_measureAll_7 : decode cX6_measureAll 7 = .ok (.getfield 44, 3) := by decide +kernel
theorem dX6_measureAll_10 : decode cX6_measureAll 10 = .ok (.if_icmp .ge 59, 3) := by decide +kernel
theorem dX6_measureAll_13 : decode cX6_measureAll 13 = .ok (.aload_n 1, 1) := by decide +kernel
theorem dX6_measureAll_14 : decode cX6_measureAll 14 = .ok (.aload_n 0, 1) := by decide +kernel
theorem dX6_measureAll_15 : decode cX6_measureAll 15 = .ok (.getfield 9, 3) := by decide +kernel
theorem dX6_measureAll_18 : decode cX6_measureAll 18 = .ok (.iload_n 2, 1) := by decide +kernel
theorem dX6_measureAll_19 : decode cX6_measureAll 19 = .ok (.iaload, 1) := by decide +kernel
theorem dX6_measureAll_20 : decode cX6_measureAll 20 = .ok (.invokevirtual 57, 3) := by decide +kernel
theorem dX6_measureAll_23 : decode cX6_measureAll 23 = .ok (.aload_n 0, 1) := by decide +kernel
theorem dX6_measureAll_24 : decode cX6_measureAll 24 = .ok (.getfield 15, 3) := by decide +kernel
theorem dX6_measureAll_27 : decode cX6_measureAll 27 = .ok (.iload_n 2, 1) := by decide +kernel
theorem dX6_measureAll_28 : decode cX6_measureAll 28 = .ok (.aload_n 1, 1) := by decide +kernel
theorem dX6_measureAll_29 : decode cX6_measureAll 29 = .ok (.getfield 63, 3) := by decide +kernel
theorem dX6_measureAll_32 : decode cX6_measureAll 32 = .ok (.iastore, 1) := by decide +kernel
theorem dX6_measureAll_33 : decode cX6_measureAll 33 = .ok (.aload_n 0, 1) := by decide +kernel
theorem dX6_measureAll_34 : decode cX6_measureAll 34 = .ok (.getfield 18, 3) := by decide +kernel
theorem dX6_measureAll_37 : decode cX6_measureAll 37 = .ok (.iload_n 2, 1) := by decide +kernel
theorem dX6_measureAll_38 : decode cX6_measureAll 38 = .ok (.aload_n 1, 1) := by decide +kernel
theorem dX6_measureAll_39 : decode cX6_measureAll 39 = .ok (.getfield 66, 3) := by decide +kernel
theorem dX6_measureAll_42 : decode cX6_measureAll 42 = .ok (.iastore, 1) := by decide +kernel
theorem dX6_measureAll_43 : decode cX6_measureAll 43 = .ok (.aload_n 0, 1) := by decide +kernel
theorem dX6_measureAll_44 : decode cX6_measureAll 44 = .ok (.getfield 21, 3) := by decide +kernel
theorem dX6_measureAll_47 : decode cX6_measureAll 47 = .ok (.iload_n 2, 1) := by decide +kernel
theorem dX6_measureAll_48 : decode cX6_measureAll 48 = .ok (.aload_n 1, 1) := by decide +kernel
theorem dX6_measureAll_49 : decode cX6_measureAll 49 = .ok (.getfield 69, 3) := by decide +kernel
theorem dX6_measureAll_52 : decode cX6_measureAll 52 = .ok (.iastore, 1) := by decide +kernel
theorem dX6_measureAll_53 : decode cX6_measureAll 53 = .ok (.aload_n 0, 1) := by decide +kernel
theorem dX6_measureAll_54 : decode cX6_measureAll 54 = .ok (.getfield 24, 3) := by decide +kernel
theorem dX6_measureAll_57 : decode cX6_measureAll 57 = .ok (.iload_n 2, 1) := by decide +kernel
theorem dX6_measureAll_58 : decode cX6_measureAll 58 = .ok (.aload_n 1, 1) := by decide +kernel
theorem dX6_measureAll_59 : decode cX6_measureAll 59 = .ok (.getfield 72, 3) := by decide +kernel
theorem dX6_measureAll_62 : decode cX6_measureAll 62 = .ok (.iastore, 1) := by decide +kernel
theorem dX6_measureAll_63 : decode cX6_measureAll 63 = .ok (.iinc 2 1, 3) := by decide +kernel
theorem dX6_measureAll_66 : decode cX6_measureAll 66 = .ok (.goto (-61), 3) := by decide +kernel
theorem dX6_measureAll_69 : decode cX6_measureAll 69 = .ok (.aload_n 0, 1) := by decide +kernel
theorem dX6_measureAll_70 : decode cX6_measureAll 70 = .ok (.aload_n 0, 1) := by decide +kernel
theorem dX6_measureAll_71 : decode cX6_measureAll 71 = .ok (.getfield 44, 3) := by decide +kernel
theorem dX6_measureAll_74 : decode cX6_measureAll 74 = .ok (.putfield 51, 3) := by decide +kernel
theorem dX6_measureAll_77 : decode cX6_measureAll 77 = .ok (.return_, 1) := by decide +kernel
def TL_measureAll_5 (N : Nat) (k_69 : St → Option (St)) : Nat → Int32 → St → Option (St)
  | 0, _, _ => none
  | n + 1, x2, σ => if (σ.1 15) ≤ x2 then k_69 σ else grd (inb x2 1280) (bnd (Sh_walk N (σ.2.1 6 (x2).toNatClampNeg) σ) (fun σ3 => grd (inb x2 1280) (lt (sa σ3 7 (x2).toNatClampNeg (σ3.1 11)) (fun σ5 => grd (inb x2 1280) (lt (sa σ5 8 (x2).toNatClampNeg (σ5.1 12)) (fun σ7 => grd (inb x2 1280) (lt (sa σ7 9 (x2).toNatClampNeg (σ7.1 13)) (fun σ9 => grd (inb x2 1280) (lt (sa σ9 10 (x2).toNatClampNeg (σ9.1 14)) (fun σ11 => TL_measureAll_5 N k_69 n (x2 + 1) σ11))))))))))
theorem TL_measureAll_5_s (N : Nat) (k_69 : St → Option (St)) (n : Nat) (x2 : Int32) (σ : St) : TL_measureAll_5 N k_69 (n + 1) x2 σ = if (σ.1 15) ≤ x2 then k_69 σ else grd (inb x2 1280) (bnd (Sh_walk N (σ.2.1 6 (x2).toNatClampNeg) σ) (fun σ3 => grd (inb x2 1280) (lt (sa σ3 7 (x2).toNatClampNeg (σ3.1 11)) (fun σ5 => grd (inb x2 1280) (lt (sa σ5 8 (x2).toNatClampNeg (σ5.1 12)) (fun σ7 => grd (inb x2 1280) (lt (sa σ7 9 (x2).toNatClampNeg (σ7.1 13)) (fun σ9 => grd (inb x2 1280) (lt (sa σ9 10 (x2).toNatClampNeg (σ9.1 14)) (fun σ11 => TL_measureAll_5 N k_69 n (x2 + 1) σ11)))))))))) := rfl
def TL_measureAll_69 (N : Nat)  (σ : St) : Option (St) := lt (si σ 17 (σ.1 15)) (fun σ12 => some σ12)
def TL_measureAll (N : Nat)  (σ0 : St) : Option (St) := TL_measureAll_5 N (TL_measureAll_69 N) N (σ0.1 17) σ0
abbrev rm_TL_measureAll : Room := { frames := 12, cells := 0, slots := 0, locals := 332 }
set_option maxHeartbeats 4000000 in
set_option maxRecDepth 100000 in
theorem k_TL_measureAll (l : Launch) (ad : Nat → Nat) (cI cJ cZ : ClassId) {N : Nat}  {σ0 : St} {τ : St} (hf : TL_measureAll N σ0 = some τ) : CtV l yX6_measureAll (gws (.code yX6_measureAll cX6_measureAll 3 none)) (rm_TL_measureAll) (ty3 cI cJ cZ) (xw ad cI cJ) [.ref (ad 4), .ref (ad 3)] σ0 τ := by
  refine CtV.of (by decide) (xw_ok ad cI cJ) (Nat.le_of_ble_eq_true rfl) ?_
  generalize hav : ([.ref (ad 4), .ref (ad 3)] : List Value) = av
  intro p e s m below meth c D A hC ls hl hP hS
  obtain ⟨hx, hb, hr, hlocks, hml, hown, hts, hK, hN, hD, hA⟩ := id hC
  rw [← hav] at hl
  have hl : lv_has ls 3 [(0, .ref (ad 4)), (1, .ref (ad 3))] := hl
  unfold TL_measureAll at hf
  have hw_5 : ∀ (k_69 : St → Option (St)) (hk_69 : ∀  (σ : St) (H : Heap) (locs : List Loc) (ls : Array Slot), va_P D vwCl ((xw ad cI cJ) σ) H → va_S A s.heap H locs → lv_has ls 3 [(0, .ref (ad 4))] → k_69 σ = some τ → W p l e (rm_TL_measureAll) s m av.toArray below meth c H locs 0 0 (QV below av.toArray s D A (xw ad cI cJ) τ) (F0 m 69 ls [])), ∀ (n : Nat), ∀ (x2 : Int32) (σ : St) (H : Heap) (locs : List Loc) (ls : Array Slot), va_P D vwCl ((xw ad cI cJ) σ) H → va_S A s.heap H locs → lv_has ls 3 [(0, .ref (ad 4)), (1, .ref (ad 3)), (2, .int x2)] → TL_measureAll_5 N k_69 n x2 σ = some τ → W p l e (rm_TL_measureAll) s m av.toArray below meth c H locs 0 0 (QV below av.toArray s D A (xw ad cI cJ) τ) (F0 m 5 ls []) := by
    intro k_69 hk_69
    intro n
    induction n with
    | zero =>
      intro x2 σ H locs ls hP hS hl hf
      cases hf
    | succ n ih =>
      intro x2 σ H locs ls hP hS hl hf
      rw [TL_measureAll_5_s] at hf
      refine lv_iload_n hx hb dX6_measureAll_5 rfl (lv_at hl 2 rfl) ?_
      refine lv_aload_n hx hb dX6_measureAll_6 rfl (lv_at hl 0 rfl) ?_
      refine xg_4_5 hC hP tw_213 dX6_measureAll_7 ?_
      refine lv_icmp_ge (tgt := 69) hx hb dX6_measureAll_10 (by decide) (fun c1 => ?_) (fun c1 => ?_)
      · rw [if_pos c1] at hf
        exact hk_69 σ H locs ls hP hS (lv_sub hl [0] rfl) hf
      rw [if_neg c1] at hf
      refine lv_aload_n hx hb dX6_measureAll_13 rfl (lv_at hl 1 rfl) ?_
      refine lv_aload_n hx hb dX6_measureAll_14 rfl (lv_at hl 0 rfl) ?_
      refine xg_4_0 hC hP tw_199 dX6_measureAll_15 ?_
      refine lv_iload_n hx hb dX6_measureAll_18 rfl (lv_at hl 2 rfl) ?_
      obtain ⟨g2, hf⟩ := grd_some hf
      refine xl_15 hC hP g2 dX6_measureAll_19 ?_
      obtain ⟨σ3, hcσ3, hf⟩ := bnd_some hf
      refine cVv (As := [.int (σ.2.1 6 (x2).toNatClampNeg)]) (rest := []) hC (k_Sh_walk l ad cI cJ cZ hcσ3) yy_X4_walk tw_572 rfl rfl ⟨by decide, by decide⟩ hP hS (q0 := 3) (ci := 4) rfl rfl (xwa_3 ..) rfl hl.1 rfl (Nat.le_of_ble_eq_true rfl) dX6_measureAll_20 (fun H locs hP hS => ?_)
      refine lv_aload_n hx hb dX6_measureAll_23 rfl (lv_at hl 0 rfl) ?_
      refine xg_4_1 hC hP tw_203 dX6_measureAll_24 ?_
      refine lv_iload_n hx hb dX6_measureAll_27 rfl (lv_at hl 2 rfl) ?_
      refine lv_aload_n hx hb dX6_measureAll_28 rfl (lv_at hl 1 rfl) ?_
      refine xg_3_0 hC hP tw_159 dX6_measureAll_29 ?_
      obtain ⟨g4, hf⟩ := grd_some hf
      refine xs_16 hC hP hS g4 dX6_measureAll_32 (fun H locs hP hS => ?_)
      obtain ⟨σ5, eσ5, hf⟩ := lt_e hf
      rw [← eσ5] at hP
      refine lv_aload_n hx hb dX6_measureAll_33 rfl (lv_at hl 0 rfl) ?_
      refine xg_4_2 hC hP tw_206 dX6_measureAll_34 ?_
      refine lv_iload_n hx hb dX6_measureAll_37 rfl (lv_at hl 2 rfl) ?_
      refine lv_aload_n hx hb dX6_measureAll_38 rfl (lv_at hl 1 rfl) ?_
      refine xg_3_1 hC hP tw_162 dX6_measureAll_39 ?_
      obtain ⟨g6, hf⟩ := grd_some hf
      refine xs_17 hC hP hS g6 dX6_measureAll_42 (fun H locs hP hS => ?_)
      obtain ⟨σ7, eσ7, hf⟩ := lt_e hf
      rw [← eσ7] at hP
      refine lv_aload_n hx hb dX6_measureAll_43 rfl (lv_at hl 0 rfl) ?_
      refine xg_4_3 hC hP tw_208 dX6_measureAll_44 ?_
      refine lv_iload_n hx hb dX6_measureAll_47 rfl (lv_at hl 2 rfl) ?_
      refine lv_aload_n hx hb dX6_measureAll_48 rfl (lv_at hl 1 rfl) ?_
      refine xg_3_2 hC hP tw_165 dX6_measureAll_49 ?_
      obtain ⟨g8, hf⟩ := grd_some hf
      refine xs_18 hC hP hS g8 dX6_measureAll_52 (fun H locs hP hS => ?_)
      obtain ⟨σ9, eσ9, hf⟩ := lt_e hf
      rw [← eσ9] at hP
      refine lv_aload_n hx hb dX6_measureAll_53 rfl (lv_at hl 0 rfl) ?_
      refine xg_4_4 hC hP tw_210 dX6_measureAll_54 ?_
      refine lv_iload_n hx hb dX6_measureAll_57 rfl (lv_at hl 2 rfl) ?_
      refine lv_aload_n hx hb dX6_measureAll_58 rfl (lv_at hl 1 rfl) ?_
      refine xg_3_3 hC hP tw_168 dX6_measureAll_59 ?_
      obtain ⟨g10, hf⟩ := grd_some hf
      refine xs_19 hC hP hS g10 dX6_measureAll_62 (fun H locs hP hS => ?_)
      obtain ⟨σ11, eσ11, hf⟩ := lt_e hf
      rw [← eσ11] at hP
      refine lv_iinc (v := (x2 + 1)) (lv' := [(2, .int (x2 + 1)), (0, .ref (ad 4)), (1, .ref (ad 3))]) hx hb dX6_measureAll_63 hl (k := 2) rfl rfl (by decide) rfl (fun ls hl => ?_)
      refine lv_goto (tgt := 5) hx hb dX6_measureAll_66 (by decide) ?_
      exact ih (x2 + 1) σ11 H locs ls hP hS (lv_sub hl [1, 2, 0] rfl) hf
  have hw_69 : ∀  (σ : St) (H : Heap) (locs : List Loc) (ls : Array Slot), va_P D vwCl ((xw ad cI cJ) σ) H → va_S A s.heap H locs → lv_has ls 3 [(0, .ref (ad 4))] → TL_measureAll_69 N σ = some τ → W p l e (rm_TL_measureAll) s m av.toArray below meth c H locs 0 0 (QV below av.toArray s D A (xw ad cI cJ) τ) (F0 m 69 ls []) := by
    intro σ H locs ls hP hS hl hf
    unfold TL_measureAll_69 at hf
    refine lv_aload_n hx hb dX6_measureAll_69 rfl (lv_at hl 0 rfl) ?_
    refine lv_aload_n hx hb dX6_measureAll_70 rfl (lv_at hl 0 rfl) ?_
    refine xg_4_5 hC hP tw_213 dX6_measureAll_71 ?_
    refine xp_4_11 hC hP hS tw_220 dX6_measureAll_74 (fun H locs hP hS => ?_)
    obtain ⟨σ12, eσ12, hf⟩ := lt_e hf
    rw [← eσ12] at hP
    have h2 := Option.some.inj hf
    exact retV hx hb hr hlocks hP hS h2 dX6_measureAll_77
  obtain ⟨H, hH⟩ : ∃ z, z = s.heap := ⟨_, rfl⟩
  obtain ⟨locs, hlocs⟩ : ∃ z : List Loc, z = [] := ⟨_, rfl⟩
  rw [← hH] at hP
  have hS : va_S A s.heap H locs := by rw [hH, hlocs]; exact va_S.rf
  suffices hgoal : W p l e _ s m _ below meth c H locs 0 0 _ _ by rw [hH, hlocs] at hgoal; exact hgoal
  refine lv_aload_n hx hb dX6_measureAll_0 rfl (lv_at hl 0 rfl) ?_
  refine xg_4_11 hC hP tw_220 dX6_measureAll_1 ?_
  refine lv_istore_n (lv' := [(2, .int (σ0.1 17)), (0, .ref (ad 4)), (1, .ref (ad 3))]) hx hb dX6_measureAll_4 rfl hl (by decide) rfl (fun ls hl => ?_)
  exact hw_5 (TL_measureAll_69 N) hw_69 N (σ0.1 17) σ0 H locs ls hP hS (lv_sub hl [1, 2, 0] rfl) hf
