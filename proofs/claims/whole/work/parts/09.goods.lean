/-! walks laid by program (gen.py, walk.py): 09.goods -/
theorem dX0_forget_0 : decode cX0_forget 0 = .ok (.aload_n 0, 1) := by decide +kernel
theorem dX0_forget_1 : decode cX0_forget 1 = .ok (.iconst 0, 1) := by decide +kernel
theorem dX0_forget_2 : decode cX0_forget 2 = .ok (.putfield 36, 3) := by decide +kernel
theorem dX0_forget_5 : decode cX0_forget 5 = .ok (.return_, 1) := by decide +kernel
def GT_forget  (σ0 : St) : St := lt (si σ0 20 0) (fun σ1 => σ1)
abbrev rm_GT_forget : Room := { frames := 0, cells := 0, slots := 0, locals := 0 }
set_option maxHeartbeats 4000000 in
set_option maxRecDepth 100000 in
theorem k_GT_forget (l : Launch) (ad : Nat → Nat) (cI cJ cZ : ClassId)  {σ0 : St} {τ : St} (hf : GT_forget σ0 = τ) : CtV l yX0_forget (gws (.code yX0_forget cX0_forget 1 none)) (rm_GT_forget) (ty3 cI cJ cZ) (xw ad cI cJ) [.ref (ad 6)] σ0 τ := by
  refine CtV.of (by decide) (xw_ok ad cI cJ) (Nat.le_of_ble_eq_true rfl) ?_
  generalize hav : ([.ref (ad 6)] : List Value) = av
  intro p e s m below meth c D A hC ls hl hP hS
  obtain ⟨hx, hb, hr, hlocks, hml, hown, hts, hK, hN, hD, hA⟩ := id hC
  rw [← hav] at hl
  have hl : lv_has ls 1 [(0, .ref (ad 6))] := hl
  unfold GT_forget at hf
  obtain ⟨H, hH⟩ : ∃ z, z = s.heap := ⟨_, rfl⟩
  obtain ⟨locs, hlocs⟩ : ∃ z : List Loc, z = [] := ⟨_, rfl⟩
  rw [← hH] at hP
  have hS : va_S A s.heap H locs := by rw [hH, hlocs]; exact va_S.rf
  suffices hgoal : W p l e _ s m _ below meth c H locs 0 0 _ _ by rw [hH, hlocs] at hgoal; exact hgoal
  refine lv_aload_n hx hb dX0_forget_0 rfl (lv_at hl 0 rfl) ?_
  refine lv_iconst (v := 0) hx hb dX0_forget_1 (by decide) ?_
  refine xp_6_3 hC hP hS (by first | exact Or.inl rfl | exact Or.inr rfl) tw_260 dX0_forget_2 (fun H locs hP hS => ?_)
  obtain ⟨σ1, eσ1, hf⟩ := lt_e hf
  rw [← eσ1] at hP
  have h2 := hf
  exact retV hx hb hr hlocks hP hS h2 dX0_forget_5
theorem dX0_take_0 : decode cX0_take 0 = .ok (.aload_n 0, 1) := by decide +kernel
theorem dX0_take_1 : decode cX0_take 1 = .ok (.dup, 1) := by decide +kernel
theorem dX0_take_2 : decode cX0_take 2 = .ok (.getfield 44, 3) := by decide +kernel
theorem dX0_take_5 : decode cX0_take 5 = .ok (.iconst 1, 1) := by decide +kernel
theorem dX0_take_6 : decode cX0_take 6 = .ok (.iadd, 1) := by decide +kernel
theorem dX0_take_7 : decode cX0_take 7 = .ok (.putfield 44, 3) := by decide +kernel
theorem dX0_take_10 : decode cX0_take 10 = .ok (.aload_n 0, 1) := by decide +kernel
theorem dX0_take_11 : decode cX0_take 11 = .ok (.dup, 1) := by decide +kernel
theorem dX0_take_12 : decode cX0_take 12 = .ok (.getfield 47, 3) := by decide +kernel
theorem dX0_take_15 : decode cX0_take 15 = .ok (.iconst 1, 1) := by decide +kernel
theorem dX0_take_16 : decode cX0_take 16 = .ok (.iload_n 2, 1) := by decide +kernel
theorem dX0_take_17 : decode cX0_take 17 = .ok (.ishl, 1) := by decide +kernel
theorem dX0_take_18 : decode cX0_take 18 = .ok (.ior, 1) := by decide +kernel
theorem dX0_take_19 : decode cX0_take 19 = .ok (.putfield 47, 3) := by decide +kernel
theorem dX0_take_22 : decode cX0_take 22 = .ok (.iload_n 2, 1) := by decide +kernel
theorem dX0_take_23 : decode cX0_take 23 = .ok (.ifCond .ne 23, 3) := by decide +kernel
theorem dX0_take_26 : decode cX0_take 26 = .ok (.aload_n 0, 1) := by decide +kernel
theorem dX0_take_27 : decode cX0_take 27 = .ok (.getfield 11, 3) := by decide +kernel
theorem dX0_take_30 : decode cX0_take 30 = .ok (.aload_n 0, 1) := by decide +kernel
theorem dX0_take_31 : decode cX0_take 31 = .ok (.getfield 40, 3) := by decide +kernel
theorem dX0_take_34 : decode cX0_take 34 = .ok (.iload_n 1, 1) := by decide +kernel
theorem dX0_take_35 : decode cX0_take 35 = .ok (.iastore, 1) := by decide +kernel
theorem dX0_take_36 : decode cX0_take 36 = .ok (.aload_n 0, 1) := by decide +kernel
theorem dX0_take_37 : decode cX0_take 37 = .ok (.dup, 1) := by decide +kernel
theorem dX0_take_38 : decode cX0_take 38 = .ok (.getfield 40, 3) := by decide +kernel
theorem dX0_take_41 : decode cX0_take 41 = .ok (.iconst 1, 1) := by decide +kernel
theorem dX0_take_42 : decode cX0_take 42 = .ok (.iadd, 1) := by decide +kernel
theorem dX0_take_43 : decode cX0_take 43 = .ok (.putfield 40, 3) := by decide +kernel
theorem dX0_take_46 : decode cX0_take 46 = .ok (.return_, 1) := by decide +kernel
def GT_take (N : Nat) (x1 : Int32) (x2 : Int32) (σ0 : St) : Option (St) := lt (si σ0 19 ((σ0.1 19) + 1)) (fun σ1 => lt (si σ1 22 ((σ1.1 22) ||| ((1 : Int32) <<< (x2 &&& 31)))) (fun σ2 => if x2 = 0 then grd (inb (σ2.1 18) 1280) (lt (sa σ2 13 ((σ2.1 18)).toNatClampNeg x1) (fun σ5 => lt (si σ5 18 ((σ5.1 18) + 1)) (fun σ6 => some σ6))) else some σ2))
abbrev rm_GT_take : Room := { frames := 0, cells := 0, slots := 0, locals := 0 }
set_option maxHeartbeats 4000000 in
set_option maxRecDepth 100000 in
theorem k_GT_take (l : Launch) (ad : Nat → Nat) (cI cJ cZ : ClassId) {N : Nat} {x1 : Int32} {x2 : Int32} {σ0 : St} {τ : St} (hf : GT_take N x1 x2 σ0 = some τ) : CtV l yX0_take (gws (.code yX0_take cX0_take 3 none)) (rm_GT_take) (ty3 cI cJ cZ) (xw ad cI cJ) [.ref (ad 6), .int x1, .int x2] σ0 τ := by
  refine CtV.of (by decide) (xw_ok ad cI cJ) (Nat.le_of_ble_eq_true rfl) ?_
  generalize hav : ([.ref (ad 6), .int x1, .int x2] : List Value) = av
  intro p e s m below meth c D A hC ls hl hP hS
  obtain ⟨hx, hb, hr, hlocks, hml, hown, hts, hK, hN, hD, hA⟩ := id hC
  rw [← hav] at hl
  have hl : lv_has ls 3 [(0, .ref (ad 6)), (1, .int x1), (2, .int x2)] := hl
  unfold GT_take at hf
  obtain ⟨H, hH⟩ : ∃ z, z = s.heap := ⟨_, rfl⟩
  obtain ⟨locs, hlocs⟩ : ∃ z : List Loc, z = [] := ⟨_, rfl⟩
  rw [← hH] at hP
  have hS : va_S A s.heap H locs := by rw [hH, hlocs]; exact va_S.rf
  suffices hgoal : W p l e _ s m _ below meth c H locs 0 0 _ _ by rw [hH, hlocs] at hgoal; exact hgoal
  refine lv_aload_n hx hb dX0_take_0 rfl (lv_at hl 0 rfl) ?_
  refine lv_dup hx hb dX0_take_1 rfl ?_
  refine xg_6_2 hC hP tw_258 dX0_take_2 ?_
  refine lv_iconst (v := 1) hx hb dX0_take_5 (by decide) ?_
  refine lv_iadd hx hb dX0_take_6 ?_
  refine xp_6_2 hC hP hS tw_258 dX0_take_7 (fun H locs hP hS => ?_)
  obtain ⟨σ1, eσ1, hf⟩ := lt_e hf
  rw [← eσ1] at hP
  refine lv_aload_n hx hb dX0_take_10 rfl (lv_at hl 0 rfl) ?_
  refine lv_dup hx hb dX0_take_11 rfl ?_
  refine xg_6_11 hC hP tw_269 dX0_take_12 ?_
  refine lv_iconst (v := 1) hx hb dX0_take_15 (by decide) ?_
  refine lv_iload_n hx hb dX0_take_16 rfl (lv_at hl 2 rfl) ?_
  refine lv_ishl hx hb dX0_take_17 ?_
  refine lv_ior hx hb dX0_take_18 ?_
  refine xp_6_11 hC hP hS tw_269 dX0_take_19 (fun H locs hP hS => ?_)
  obtain ⟨σ2, eσ2, hf⟩ := lt_e hf
  rw [← eσ2] at hP
  refine lv_iload_n hx hb dX0_take_22 rfl (lv_at hl 2 rfl) ?_
  refine lv_if_ne (tgt := 46) hx hb dX0_take_23 (by decide) (fun c3 => ?_) (fun c3 => ?_)
  · rw [if_neg c3] at hf
    have h2 := Option.some.inj hf
    exact retV hx hb hr hlocks hP hS h2 dX0_take_46
  rw [if_pos c3] at hf
  refine lv_aload_n hx hb dX0_take_26 rfl (lv_at hl 0 rfl) ?_
  refine xg_6_0 hC hP tw_252 dX0_take_27 ?_
  refine lv_aload_n hx hb dX0_take_30 rfl (lv_at hl 0 rfl) ?_
  refine xg_6_1 hC hP tw_255 dX0_take_31 ?_
  refine lv_iload_n hx hb dX0_take_34 rfl (lv_at hl 1 rfl) ?_
  obtain ⟨g4, hf⟩ := grd_some hf
  refine xs_22 hC hP hS g4 dX0_take_35 (fun H locs hP hS => ?_)
  obtain ⟨σ5, eσ5, hf⟩ := lt_e hf
  rw [← eσ5] at hP
  refine lv_aload_n hx hb dX0_take_36 rfl (lv_at hl 0 rfl) ?_
  refine lv_dup hx hb dX0_take_37 rfl ?_
  refine xg_6_1 hC hP tw_255 dX0_take_38 ?_
  refine lv_iconst (v := 1) hx hb dX0_take_41 (by decide) ?_
  refine lv_iadd hx hb dX0_take_42 ?_
  refine xp_6_1 hC hP hS tw_255 dX0_take_43 (fun H locs hP hS => ?_)
  obtain ⟨σ6, eσ6, hf⟩ := lt_e hf
  rw [← eσ6] at hP
  have h2 := Option.some.inj hf
  exact retV hx hb hr hlocks hP hS h2 dX0_take_46
theorem dX0_brokenAt_0 : decode cX0_brokenAt 0 = .ok (.aload_n 0, 1) := by decide +kernel
theorem dX0_brokenAt_1 : decode cX0_brokenAt 1 = .ok (.getfield 28, 3) := by decide +kernel
theorem dX0_brokenAt_4 : decode cX0_brokenAt 4 = .ok (.aload_n 0, 1) := by decide +kernel
theorem dX0_brokenAt_5 : decode cX0_brokenAt 5 = .ok (.getfield 24, 3) := by decide +kernel
theorem dX0_brokenAt_8 : decode cX0_brokenAt 8 = .ok (.aload_n 0, 1) := by decide +kernel
theorem dX0_brokenAt_9 : decode cX0_brokenAt 9 = .ok (.getfield 32, 3) := by decide +kernel
theorem dX0_brokenAt_12 : decode cX0_brokenAt 12 = .ok (.getfield 53, 3) := by decide +kernel
theorem dX0_brokenAt_15 : decode cX0_brokenAt 15 = .ok (.iload_n 1, 1) := by decide +kernel
theorem dX0_brokenAt_16 : decode cX0_brokenAt 16 = .ok (.iaload, 1) := by decide +kernel
theorem dX0_brokenAt_17 : decode cX0_brokenAt 17 = .ok (.aload_n 0, 1) := by decide +kernel
theorem dX0_brokenAt_18 : decode cX0_brokenAt 18 = .ok (.getfield 32, 3) := by decide +kernel
theorem dX0_brokenAt_21 : decode cX0_brokenAt 21 = .ok (.getfield 72, 3) := by decide +kernel
theorem dX0_brokenAt_24 : decode cX0_brokenAt 24 = .ok (.iload_n 1, 1) := by decide +kernel
theorem dX0_brokenAt_25 : decode cX0_brokenAt 25 = .ok (.iaload, 1) := by decide +kernel
theorem dX0_brokenAt_26 : decode cX0_brokenAt 26 = .ok (.aload_n 0, 1) := by decide +kernel
theorem dX0_brokenAt_27 : decode cX0_brokenAt 27 = .ok (.getfield 32, 3) := by decide +kernel
theorem dX0_brokenAt_30 : decode cX0_brokenAt 30 = .ok (.getfield 75, 3) := by decide +kernel
theorem dX0_brokenAt_33 : decode cX0_brokenAt 33 = .ok (.iload_n 1, 1) := by decide +kernel
theorem dX0_brokenAt_34 : decode cX0_brokenAt 34 = .ok (.iaload, 1) := by decide +kernel
theorem dX0_brokenAt_35 : decode cX0_brokenAt 35 = .ok (.aload_n 0, 1) := by decide +kernel
theorem dX0_brokenAt_36 : decode cX0_brokenAt 36 = .ok (.getfield 32, 3) := by decide +kernel
theorem dX0_brokenAt_39 : decode cX0_brokenAt 39 = .ok (.getfield 78, 3) := by decide +kernel
theorem dX0_brokenAt_42 : decode cX0_brokenAt 42 = .ok (.iload_n 1, 1) := by decide +kernel
theorem dX0_brokenAt_43 : decode cX0_brokenAt 43 = .ok (.iaload, 1) := by decide +kernel
theorem dX0_brokenAt_44 : decode cX0_brokenAt 44 = .ok (.invokevirtual 81, 3) := by decide +kernel
theorem dX0_brokenAt_47 : decode cX0_brokenAt 47 = .ok (.ireturn, 1) := by decide +kernel
def GT_brokenAt (N : Nat) (x1 : Int32) (σ0 : St) : Option (Int32) := grd (inb x1 1280) (grd (inb x1 1280) (grd (inb x1 1280) (grd (inb x1 1280) (bnd (Lim_brokenBy N (σ0.2.1 6 (x1).toNatClampNeg) (σ0.2.1 8 (x1).toNatClampNeg) (σ0.2.1 9 (x1).toNatClampNeg) (σ0.2.1 10 (x1).toNatClampNeg) σ0) (fun y5 => some y5)))))
abbrev rm_GT_brokenAt : Room := { frames := 4, cells := 0, slots := 0, locals := 91 }
set_option maxHeartbeats 4000000 in
set_option maxRecDepth 100000 in
theorem k_GT_brokenAt (l : Launch) (ad : Nat → Nat) (cI cJ cZ : ClassId) {N : Nat} {x1 : Int32} {σ0 : St} {r : Int32} (hf : GT_brokenAt N x1 σ0 = some r) : CtI l yX0_brokenAt (gws (.code yX0_brokenAt cX0_brokenAt 2 (some .int))) (rm_GT_brokenAt) (ty3 cI cJ cZ) (xw ad cI cJ) [.ref (ad 6), .int x1] σ0 r σ0 := by
  refine CtI.of (by decide) (xw_ok ad cI cJ) (Nat.le_of_ble_eq_true rfl) ?_
  generalize hav : ([.ref (ad 6), .int x1] : List Value) = av
  intro p e s m below meth c D A hC ls hl hP hS
  obtain ⟨hx, hb, hr, hlocks, hml, hown, hts, hK, hN, hD, hA⟩ := id hC
  rw [← hav] at hl
  have hl : lv_has ls 2 [(0, .ref (ad 6)), (1, .int x1)] := hl
  unfold GT_brokenAt at hf
  obtain ⟨H, hH⟩ : ∃ z, z = s.heap := ⟨_, rfl⟩
  obtain ⟨locs, hlocs⟩ : ∃ z : List Loc, z = [] := ⟨_, rfl⟩
  rw [← hH] at hP
  have hS : va_S A s.heap H locs := by rw [hH, hlocs]; exact va_S.rf
  suffices hgoal : W p l e _ s m _ below meth c H locs 0 0 _ _ by rw [hH, hlocs] at hgoal; exact hgoal
  refine lv_aload_n hx hb dX0_brokenAt_0 rfl (lv_at hl 0 rfl) ?_
  refine xg_6_5 hC hP tw_263 dX0_brokenAt_1 ?_
  refine lv_aload_n hx hb dX0_brokenAt_4 rfl (lv_at hl 0 rfl) ?_
  refine xg_6_4 hC hP tw_262 dX0_brokenAt_5 ?_
  refine lv_aload_n hx hb dX0_brokenAt_8 rfl (lv_at hl 0 rfl) ?_
  refine xg_6_6 hC hP tw_264 dX0_brokenAt_9 ?_
  refine xg_4_0 hC hP tw_200 dX0_brokenAt_12 ?_
  refine lv_iload_n hx hb dX0_brokenAt_15 rfl (lv_at hl 1 rfl) ?_
  obtain ⟨g1, hf⟩ := grd_some hf
  refine xl_15 hC hP g1 dX0_brokenAt_16 ?_
  refine lv_aload_n hx hb dX0_brokenAt_17 rfl (lv_at hl 0 rfl) ?_
  refine xg_6_6 hC hP tw_264 dX0_brokenAt_18 ?_
  refine xg_4_2 hC hP tw_207 dX0_brokenAt_21 ?_
  refine lv_iload_n hx hb dX0_brokenAt_24 rfl (lv_at hl 1 rfl) ?_
  obtain ⟨g2, hf⟩ := grd_some hf
  refine xl_17 hC hP g2 dX0_brokenAt_25 ?_
  refine lv_aload_n hx hb dX0_brokenAt_26 rfl (lv_at hl 0 rfl) ?_
  refine xg_6_6 hC hP tw_264 dX0_brokenAt_27 ?_
  refine xg_4_3 hC hP tw_209 dX0_brokenAt_30 ?_
  refine lv_iload_n hx hb dX0_brokenAt_33 rfl (lv_at hl 1 rfl) ?_
  obtain ⟨g3, hf⟩ := grd_some hf
  refine xl_18 hC hP g3 dX0_brokenAt_34 ?_
  refine lv_aload_n hx hb dX0_brokenAt_35 rfl (lv_at hl 0 rfl) ?_
  refine xg_6_6 hC hP tw_264 dX0_brokenAt_36 ?_
  refine xg_4_4 hC hP tw_211 dX0_brokenAt_39 ?_
  refine lv_iload_n hx hb dX0_brokenAt_42 rfl (lv_at hl 1 rfl) ?_
  obtain ⟨g4, hf⟩ := grd_some hf
  refine xl_19 hC hP g4 dX0_brokenAt_43 ?_
  obtain ⟨y5, hcy5, hf⟩ := bnd_some hf
  refine cVi (As := [.ref (ad 1), .int (σ0.2.1 6 (x1).toNatClampNeg), .int (σ0.2.1 8 (x1).toNatClampNeg), .int (σ0.2.1 9 (x1).toNatClampNeg), .int (σ0.2.1 10 (x1).toNatClampNeg)]) (rest := []) hC (k_Lim_brokenBy l ad cI cJ cZ hcy5) yy_X1_brokenBy tw_581 rfl rfl ⟨by decide, by decide⟩ hP hS (q0 := 2) (ci := 1) rfl rfl (xwa_2 ..) rfl hl.1 rfl (Nat.le_of_ble_eq_true rfl) dX0_brokenAt_44 (fun H locs hP hS => ?_)
  have h1 := Option.some.inj hf
  exact retI hx hb hr hlocks hP hS h1 rfl dX0_brokenAt_47
theorem dX0_find_0 : decode cX0_find 0 = .ok (.aload_n 0, 1) := by decide +kernel
theorem dX0_find_1 : decode cX0_find 1 = .ok (.iconst 0, 1) := by decide +kernel
theorem dX0_find_2 : decode cX0_find 2 = .ok (.putfield 40, 3) := by decide +kernel
theorem dX0_find_5 : decode cX0_find 5 = .ok (.aload_n 0, 1) := by decide +kernel
theorem dX0_find_6 : decode cX0_find 6 = .ok (.iconst 0, 1) := by decide +kernel
theorem dX0_find_7 : decode cX0_find 7 = .ok (.putfield 44, 3) := by decide +kernel
theorem dX0_find_10 : decode cX0_find 10 = .ok (.aload_n 0, 1) := by decide +kernel
theorem dX0_find_11 : decode cX0_find 11 = .ok (.iconst 0, 1) := by decide +kernel
theorem dX0_find_12 : decode cX0_find 12 = .ok (.putfield 47, 3) := by decide +kernel
theorem dX0_find_15 : decode cX0_find 15 = .ok (.iconst 0, 1) := by decide +kernel
theorem dX0_find_16 : decode cX0_find 16 = .ok (.istore_n 1, 1) := by decide +kernel
theorem dX0_find_17 : decode cX0_find 17 = .ok (.iload_n 1, 1) := by decide +kernel
theorem dX0_find_18 : decode cX0_find 18 = .ok (.aload_n 0, 1) := by decide +kernel
theorem dX0_find_19 : decode cX0_find 19 = .ok (.getfield 32, 3) := by decide +kernel
theorem dX0_find_22 : decode cX0_find 22 = .ok (.getfield 50, 3) := by decide +kernel
theorem dX0_find_25 : decode cX0_find 25 = .ok (.if_icmp .ge 39, 3) := by decide +kernel
theorem dX0_find_28 : decode cX0_find 28 = .ok (.aload_n 0, 1) := by decide +kernel
theorem dX0_find_29 : decode cX0_find 29 = .ok (.getfield 32, 3) := by decide +kernel
theorem dX0_find_32 : decode cX0_find 32 = .ok (.getfield 53, 3) := by decide +kernel
theorem dX0_find_35 : decode cX0_find 35 = .ok (.iload_n 1, 1) := by decide +kernel
theorem dX0_find_36 : decode cX0_find 36 = .ok (.iaload, 1) := by decide +kernel
theorem dX0_find_37 : decode cX0_find 37 = .ok (.aload_n 0, 1) := by decide +kernel
theorem dX0_find_38 : decode cX0_find 38 = .ok (.getfield 24, 3) := by decide +kernel
theorem dX0_find_41 : decode cX0_find 41 = .ok (.getfield 56, 3) := by decide +kernel
theorem dX0_find_44 : decode cX0_find 44 = .ok (.iand, 1) := by decide +kernel
theorem dX0_find_45 : decode cX0_find 45 = .ok (.ifCond .ne 13, 3) := by decide +kernel
theorem dX0_find_48 : decode cX0_find 48 = .ok (.aload_n 0, 1) := by decide +kernel
theorem dX0_find_49 : decode cX0_find 49 = .ok (.iload_n 1, 1) := by decide +kernel
theorem dX0_find_50 : decode cX0_find 50 = .ok (.aload_n 0, 1) := by decide +kernel
theorem dX0_find_51 : decode cX0_find 51 = .ok (.iload_n 1, 1) := by decide +kernel
theorem dX0_find_52 : decode cX0_find 52 = .ok (.invokevirtual 61, 3) := by decide +kernel
theorem dX0_find_55 : decode cX0_find 55 = .ok (.invokevirtual 65, 3) := by decide +kernel
theorem dX0_find_58 : decode cX0_find 58 = .ok (.iinc 1 1, 3) := by decide +kernel
theorem dX0_find_61 : decode cX0_find 61 = .ok (.goto (-44), 3) := by decide +kernel
theorem dX0_find_64 : decode cX0_find 64 = .ok (.aload_n 0, 1) := by decide +kernel
theorem dX0_find_65 : decode cX0_find 65 = .ok (.iconst 0, 1) := by decide +kernel
theorem dX0_find_66 : decode cX0_find 66 = .ok (.putfield 69, 3) := by decide +kernel
theorem dX0_find_69 : decode cX0_find 69 = .ok (.aload_n 0, 1) := by decide +kernel
theorem dX0_find_70 : decode cX0_find 70 = .ok (.iconst 1, 1) := by decide +kernel
theorem dX0_find_71 : decode cX0_find 71 = .ok (.putfield 36, 3) := by decide +kernel
theorem dX0_find_74 : decode cX0_find 74 = .ok (.return_, 1) := by decide +kernel
def GT_find_17 (N : Nat) (k_64 : St → Option (St)) : Nat → Int32 → St → Option (St)
  | 0, _, _ => none
  | n + 1, x1, σ => if (σ.1 15) ≤ x1 then k_64 σ else grd (inb x1 1280) (if ((σ.2.1 6 (x1).toNatClampNeg) &&& (σ.1 4)) = 0 then bnd (GT_brokenAt N x1 σ) (fun y4 => bnd (GT_take N x1 y4 σ) (fun σ5 => GT_find_17 N k_64 n (x1 + 1) σ5)) else GT_find_17 N k_64 n (x1 + 1) σ)
theorem GT_find_17_s (N : Nat) (k_64 : St → Option (St)) (n : Nat) (x1 : Int32) (σ : St) : GT_find_17 N k_64 (n + 1) x1 σ = if (σ.1 15) ≤ x1 then k_64 σ else grd (inb x1 1280) (if ((σ.2.1 6 (x1).toNatClampNeg) &&& (σ.1 4)) = 0 then bnd (GT_brokenAt N x1 σ) (fun y4 => bnd (GT_take N x1 y4 σ) (fun σ5 => GT_find_17 N k_64 n (x1 + 1) σ5)) else GT_find_17 N k_64 n (x1 + 1) σ) := rfl
def GT_find_64 (N : Nat)  (σ : St) : Option (St) := lt (si σ 21 0) (fun σ6 => lt (si σ6 20 1) (fun σ7 => some σ7))
def GT_find (N : Nat)  (σ0 : St) : Option (St) := lt (si σ0 18 0) (fun σ8 => lt (si σ8 19 0) (fun σ9 => lt (si σ9 22 0) (fun σ10 => GT_find_17 N (GT_find_64 N) N 0 σ10)))
abbrev rm_GT_find : Room := { frames := 5, cells := 0, slots := 0, locals := 112 }
set_option maxHeartbeats 4000000 in
set_option maxRecDepth 100000 in
theorem k_GT_find (l : Launch) (ad : Nat → Nat) (cI cJ cZ : ClassId) {N : Nat}  {σ0 : St} {τ : St} (hf : GT_find N σ0 = some τ) : CtV l yX0_find (gws (.code yX0_find cX0_find 2 none)) (rm_GT_find) (ty3 cI cJ cZ) (xw ad cI cJ) [.ref (ad 6)] σ0 τ := by
  refine CtV.of (by decide) (xw_ok ad cI cJ) (Nat.le_of_ble_eq_true rfl) ?_
  generalize hav : ([.ref (ad 6)] : List Value) = av
  intro p e s m below meth c D A hC ls hl hP hS
  obtain ⟨hx, hb, hr, hlocks, hml, hown, hts, hK, hN, hD, hA⟩ := id hC
  rw [← hav] at hl
  have hl : lv_has ls 2 [(0, .ref (ad 6))] := hl
  unfold GT_find at hf
  have hw_17 : ∀ (k_64 : St → Option (St)) (hk_64 : ∀  (σ : St) (H : Heap) (locs : List Loc) (ls : Array Slot), va_P D vwCl ((xw ad cI cJ) σ) H → va_S A s.heap H locs → lv_has ls 2 [(0, .ref (ad 6))] → k_64 σ = some τ → W p l e (rm_GT_find) s m av.toArray below meth c H locs 0 0 (QV below av.toArray s D A (xw ad cI cJ) τ) (F0 m 64 ls [])), ∀ (n : Nat), ∀ (x1 : Int32) (σ : St) (H : Heap) (locs : List Loc) (ls : Array Slot), va_P D vwCl ((xw ad cI cJ) σ) H → va_S A s.heap H locs → lv_has ls 2 [(0, .ref (ad 6)), (1, .int x1)] → GT_find_17 N k_64 n x1 σ = some τ → W p l e (rm_GT_find) s m av.toArray below meth c H locs 0 0 (QV below av.toArray s D A (xw ad cI cJ) τ) (F0 m 17 ls []) := by
    intro k_64 hk_64
    intro n
    induction n with
    | zero =>
      intro x1 σ H locs ls hP hS hl hf
      cases hf
    | succ n ih =>
      intro x1 σ H locs ls hP hS hl hf
      rw [GT_find_17_s] at hf
      refine lv_iload_n hx hb dX0_find_17 rfl (lv_at hl 1 rfl) ?_
      refine lv_aload_n hx hb dX0_find_18 rfl (lv_at hl 0 rfl) ?_
      refine xg_6_6 hC hP tw_264 dX0_find_19 ?_
      refine xg_4_5 hC hP tw_214 dX0_find_22 ?_
      refine lv_icmp_ge (tgt := 64) hx hb dX0_find_25 (by decide) (fun c1 => ?_) (fun c1 => ?_)
      · rw [if_pos c1] at hf
        exact hk_64 σ H locs ls hP hS (lv_sub hl [0] rfl) hf
      rw [if_neg c1] at hf
      refine lv_aload_n hx hb dX0_find_28 rfl (lv_at hl 0 rfl) ?_
      refine xg_6_6 hC hP tw_264 dX0_find_29 ?_
      refine xg_4_0 hC hP tw_200 dX0_find_32 ?_
      refine lv_iload_n hx hb dX0_find_35 rfl (lv_at hl 1 rfl) ?_
      obtain ⟨g2, hf⟩ := grd_some hf
      refine xl_15 hC hP g2 dX0_find_36 ?_
      refine lv_aload_n hx hb dX0_find_37 rfl (lv_at hl 0 rfl) ?_
      refine xg_6_4 hC hP tw_262 dX0_find_38 ?_
      refine xg_1_4 hC hP tw_77 dX0_find_41 ?_
      refine lv_iand hx hb dX0_find_44 ?_
      refine lv_if_ne (tgt := 58) hx hb dX0_find_45 (by decide) (fun c3 => ?_) (fun c3 => ?_)
      · rw [if_neg c3] at hf
        refine lv_iinc (v := (x1 + 1)) (lv' := [(1, .int (x1 + 1)), (0, .ref (ad 6))]) hx hb dX0_find_58 hl (k := 1) rfl rfl (by decide) rfl (fun ls hl => ?_)
        refine lv_goto (tgt := 17) hx hb dX0_find_61 (by decide) ?_
        exact ih (x1 + 1) σ H locs ls hP hS (lv_sub hl [1, 0] rfl) hf
      rw [if_pos c3] at hf
      refine lv_aload_n hx hb dX0_find_48 rfl (lv_at hl 0 rfl) ?_
      refine lv_iload_n hx hb dX0_find_49 rfl (lv_at hl 1 rfl) ?_
      refine lv_aload_n hx hb dX0_find_50 rfl (lv_at hl 0 rfl) ?_
      refine lv_iload_n hx hb dX0_find_51 rfl (lv_at hl 1 rfl) ?_
      obtain ⟨y4, hcy4, hf⟩ := bnd_some hf
      refine cVi (As := [.int x1]) (rest := [.int x1, .ref (ad 6)]) hC (k_GT_brokenAt l ad cI cJ cZ hcy4) yy_X0_brokenAt tw_577 rfl rfl ⟨by decide, by decide⟩ hP hS (q0 := 6) (ci := 0) rfl rfl (xwa_6 ..) rfl hl.1 rfl (Nat.le_of_ble_eq_true rfl) dX0_find_52 (fun H locs hP hS => ?_)
      obtain ⟨σ5, hcσ5, hf⟩ := bnd_some hf
      refine cVv (As := [.int x1, .int y4]) (rest := []) hC (k_GT_take l ad cI cJ cZ hcσ5) yy_X0_take tw_582 rfl rfl ⟨by decide, by decide⟩ hP hS (q0 := 6) (ci := 0) rfl rfl (xwa_6 ..) rfl hl.1 rfl (Nat.le_of_ble_eq_true rfl) dX0_find_55 (fun H locs hP hS => ?_)
      refine lv_iinc (v := (x1 + 1)) (lv' := [(1, .int (x1 + 1)), (0, .ref (ad 6))]) hx hb dX0_find_58 hl (k := 1) rfl rfl (by decide) rfl (fun ls hl => ?_)
      refine lv_goto (tgt := 17) hx hb dX0_find_61 (by decide) ?_
      exact ih (x1 + 1) σ5 H locs ls hP hS (lv_sub hl [1, 0] rfl) hf
  have hw_64 : ∀  (σ : St) (H : Heap) (locs : List Loc) (ls : Array Slot), va_P D vwCl ((xw ad cI cJ) σ) H → va_S A s.heap H locs → lv_has ls 2 [(0, .ref (ad 6))] → GT_find_64 N σ = some τ → W p l e (rm_GT_find) s m av.toArray below meth c H locs 0 0 (QV below av.toArray s D A (xw ad cI cJ) τ) (F0 m 64 ls []) := by
    intro σ H locs ls hP hS hl hf
    unfold GT_find_64 at hf
    refine lv_aload_n hx hb dX0_find_64 rfl (lv_at hl 0 rfl) ?_
    refine lv_iconst (v := 0) hx hb dX0_find_65 (by decide) ?_
    refine xp_6_10 hC hP hS (by first | exact Or.inl rfl | exact Or.inr rfl) tw_268 dX0_find_66 (fun H locs hP hS => ?_)
    obtain ⟨σ6, eσ6, hf⟩ := lt_e hf
    rw [← eσ6] at hP
    refine lv_aload_n hx hb dX0_find_69 rfl (lv_at hl 0 rfl) ?_
    refine lv_iconst (v := 1) hx hb dX0_find_70 (by decide) ?_
    refine xp_6_3 hC hP hS (by first | exact Or.inl rfl | exact Or.inr rfl) tw_260 dX0_find_71 (fun H locs hP hS => ?_)
    obtain ⟨σ7, eσ7, hf⟩ := lt_e hf
    rw [← eσ7] at hP
    have h2 := Option.some.inj hf
    exact retV hx hb hr hlocks hP hS h2 dX0_find_74
  obtain ⟨H, hH⟩ : ∃ z, z = s.heap := ⟨_, rfl⟩
  obtain ⟨locs, hlocs⟩ : ∃ z : List Loc, z = [] := ⟨_, rfl⟩
  rw [← hH] at hP
  have hS : va_S A s.heap H locs := by rw [hH, hlocs]; exact va_S.rf
  suffices hgoal : W p l e _ s m _ below meth c H locs 0 0 _ _ by rw [hH, hlocs] at hgoal; exact hgoal
  refine lv_aload_n hx hb dX0_find_0 rfl (lv_at hl 0 rfl) ?_
  refine lv_iconst (v := 0) hx hb dX0_find_1 (by decide) ?_
  refine xp_6_1 hC hP hS tw_255 dX0_find_2 (fun H locs hP hS => ?_)
  obtain ⟨σ8, eσ8, hf⟩ := lt_e hf
  rw [← eσ8] at hP
  refine lv_aload_n hx hb dX0_find_5 rfl (lv_at hl 0 rfl) ?_
  refine lv_iconst (v := 0) hx hb dX0_find_6 (by decide) ?_
  refine xp_6_2 hC hP hS tw_258 dX0_find_7 (fun H locs hP hS => ?_)
  obtain ⟨σ9, eσ9, hf⟩ := lt_e hf
  rw [← eσ9] at hP
  refine lv_aload_n hx hb dX0_find_10 rfl (lv_at hl 0 rfl) ?_
  refine lv_iconst (v := 0) hx hb dX0_find_11 (by decide) ?_
  refine xp_6_11 hC hP hS tw_269 dX0_find_12 (fun H locs hP hS => ?_)
  obtain ⟨σ10, eσ10, hf⟩ := lt_e hf
  rw [← eσ10] at hP
  refine lv_iconst (v := 0) hx hb dX0_find_15 (by decide) ?_
  refine lv_istore_n (lv' := [(1, .int 0), (0, .ref (ad 6))]) hx hb dX0_find_16 rfl hl (by decide) rfl (fun ls hl => ?_)
  exact hw_17 (GT_find_64 N) hw_64 N 0 σ10 H locs ls hP hS (lv_sub hl [1, 0] rfl) hf
theorem dX0_placeOfGood_0 : decode cX0_placeOfGood 0 = .ok (.aload_n 0, 1) := by decide +kernel
theorem dX0_placeOfGood_1 : decode cX0_placeOfGood 1 = .ok (.getfield 32, 3) := by decide +kernel
theorem dX0_placeOfGood_4 : decode cX0_placeOfGood 4 = .ok (.iload_n 1, 1) := by decide +kernel
theorem dX0_placeOfGood_5 : decode cX0_placeOfGood 5 = .ok (.invokevirtual 87, 3) := by decide +kernel
theorem dX0_placeOfGood_8 : decode cX0_placeOfGood 8 = .ok (.istore_n 2, 1) := by decide +kernel
theorem dX0_placeOfGood_9 : decode cX0_placeOfGood 9 = .ok (.iload_n 2, 1) := by decide +kernel
theorem dX0_placeOfGood_10 : decode cX0_placeOfGood 10 = .ok (.iconst (-1), 1) := by decide +kernel
theorem dX0_placeOfGood_11 : decode cX0_placeOfGood 11 = .ok (.if_icmp .eq 27, 3) := by decide +kernel
theorem dX0_placeOfGood_14 : decode cX0_placeOfGood 14 = .ok (.iload_n 1, 1) := by decide +kernel
theorem dX0_placeOfGood_15 : decode cX0_placeOfGood 15 = .ok (.aload_n 0, 1) := by decide +kernel
theorem dX0_placeOfGood_16 : decode cX0_placeOfGood 16 = .ok (.getfield 24, 3) := by decide +kernel
theorem dX0_placeOfGood_19 : decode cX0_placeOfGood 19 = .ok (.getfield 56, 3) := by decide +kernel
theorem dX0_placeOfGood_22 : decode cX0_placeOfGood 22 = .ok (.iand, 1) := by decide +kernel
theorem dX0_placeOfGood_23 : decode cX0_placeOfGood 23 = .ok (.ifCond .ne 15, 3) := by decide +kernel
theorem dX0_placeOfGood_26 : decode cX0_placeOfGood 26 = .ok (.aload_n 0, 1) := by decide +kernel
theorem dX0_placeOfGood_27 : decode cX0_placeOfGood 27 = .ok (.iload_n 2, 1) := by decide +kernel
theorem dX0_placeOfGood_28 : decode cX0_placeOfGood 28 = .ok (.invokevirtual 61, 3) := by decide +kernel
theorem dX0_placeOfGood_31 : decode cX0_placeOfGood 31 = .ok (.ifCond .ne 7, 3) := by decide +kernel
theorem dX0_placeOfGood_34 : decode cX0_placeOfGood 34 = .ok (.iconst 1, 1) := by decide +kernel
theorem dX0_placeOfGood_35 : decode cX0_placeOfGood 35 = .ok (.goto 4, 3) := by decide +kernel
theorem dX0_placeOfGood_38 : decode cX0_placeOfGood 38 = .ok (.iconst 0, 1) := by decide +kernel
theorem dX0_placeOfGood_39 : decode cX0_placeOfGood 39 = .ok (.istore_n 3, 1) := by decide +kernel
theorem dX0_placeOfGood_40 : decode cX0_placeOfGood 40 = .ok (.iload_n 3, 1) := by decide +kernel
theorem dX0_placeOfGood_41 : decode cX0_placeOfGood 41 = .ok (.ifCond .eq 7, 3) := by decide +kernel
theorem dX0_placeOfGood_44 : decode cX0_placeOfGood 44 = .ok (.iload_n 2, 1) := by decide +kernel
theorem dX0_placeOfGood_45 : decode cX0_placeOfGood 45 = .ok (.goto 4, 3) := by decide +kernel
theorem dX0_placeOfGood_48 : decode cX0_placeOfGood 48 = .ok (.iconst (-1), 1) := by decide +kernel
theorem dX0_placeOfGood_49 : decode cX0_placeOfGood 49 = .ok (.ireturn, 1) := by decide +kernel
def GT_placeOfGood (N : Nat) (x1 : Int32) (σ0 : St) : Option (Int32) := bnd (TL_placeOf N x1 σ0) (fun y1 => if y1 = (-1) then if (0 : Int32) = (0 : Int32) then some (-1) else some y1 else if (x1 &&& (σ0.1 4)) = 0 then bnd (GT_brokenAt N y1 σ0) (fun y6 => if y6 = 0 then if (1 : Int32) = (0 : Int32) then some (-1) else some y1 else if (0 : Int32) = (0 : Int32) then some (-1) else some y1) else if (0 : Int32) = (0 : Int32) then some (-1) else some y1)
abbrev rm_GT_placeOfGood : Room := { frames := 5, cells := 0, slots := 0, locals := 112 }
set_option maxHeartbeats 4000000 in
set_option maxRecDepth 100000 in
theorem k_GT_placeOfGood (l : Launch) (ad : Nat → Nat) (cI cJ cZ : ClassId) {N : Nat} {x1 : Int32} {σ0 : St} {r : Int32} (hf : GT_placeOfGood N x1 σ0 = some r) : CtI l yX0_placeOfGood (gws (.code yX0_placeOfGood cX0_placeOfGood 4 (some .int))) (rm_GT_placeOfGood) (ty3 cI cJ cZ) (xw ad cI cJ) [.ref (ad 6), .int x1] σ0 r σ0 := by
  refine CtI.of (by decide) (xw_ok ad cI cJ) (Nat.le_of_ble_eq_true rfl) ?_
  generalize hav : ([.ref (ad 6), .int x1] : List Value) = av
  intro p e s m below meth c D A hC ls hl hP hS
  obtain ⟨hx, hb, hr, hlocks, hml, hown, hts, hK, hN, hD, hA⟩ := id hC
  rw [← hav] at hl
  have hl : lv_has ls 4 [(0, .ref (ad 6)), (1, .int x1)] := hl
  unfold GT_placeOfGood at hf
  obtain ⟨H, hH⟩ : ∃ z, z = s.heap := ⟨_, rfl⟩
  obtain ⟨locs, hlocs⟩ : ∃ z : List Loc, z = [] := ⟨_, rfl⟩
  rw [← hH] at hP
  have hS : va_S A s.heap H locs := by rw [hH, hlocs]; exact va_S.rf
  suffices hgoal : W p l e _ s m _ below meth c H locs 0 0 _ _ by rw [hH, hlocs] at hgoal; exact hgoal
  refine lv_aload_n hx hb dX0_placeOfGood_0 rfl (lv_at hl 0 rfl) ?_
  refine xg_6_6 hC hP tw_264 dX0_placeOfGood_1 ?_
  refine lv_iload_n hx hb dX0_placeOfGood_4 rfl (lv_at hl 1 rfl) ?_
  obtain ⟨y1, hcy1, hf⟩ := bnd_some hf
  refine cVi (As := [.int x1]) (rest := []) hC (k_TL_placeOf l ad cI cJ cZ hcy1) yy_X6_placeOf tw_649 rfl rfl ⟨by decide, by decide⟩ hP hS (q0 := 4) (ci := 6) rfl rfl (xwa_4 ..) rfl hl.1 rfl (Nat.le_of_ble_eq_true rfl) dX0_placeOfGood_5 (fun H locs hP hS => ?_)
  refine lv_istore_n (lv' := [(2, .int y1), (0, .ref (ad 6)), (1, .int x1)]) hx hb dX0_placeOfGood_8 rfl hl (by decide) rfl (fun ls hl => ?_)
  refine lv_iload_n hx hb dX0_placeOfGood_9 rfl (lv_at hl 0 rfl) ?_
  refine lv_iconst (v := (-1)) hx hb dX0_placeOfGood_10 (by decide) ?_
  refine lv_icmp_eq (tgt := 38) hx hb dX0_placeOfGood_11 (by decide) (fun c2 => ?_) (fun c2 => ?_)
  · rw [if_pos c2] at hf
    refine lv_iconst (v := 0) hx hb dX0_placeOfGood_38 (by decide) ?_
    refine lv_istore_n (lv' := [(3, .int 0), (2, .int y1), (0, .ref (ad 6)), (1, .int x1)]) hx hb dX0_placeOfGood_39 rfl hl (by decide) rfl (fun ls hl => ?_)
    refine lv_iload_n hx hb dX0_placeOfGood_40 rfl (lv_at hl 0 rfl) ?_
    refine lv_if_eq (tgt := 48) hx hb dX0_placeOfGood_41 (by decide) (fun c3 => ?_) (fun c3 => ?_)
    · rw [if_pos c3] at hf
      refine lv_iconst (v := (-1)) hx hb dX0_placeOfGood_48 (by decide) ?_
      have h1 := Option.some.inj hf
      exact retI hx hb hr hlocks hP hS h1 rfl dX0_placeOfGood_49
    rw [if_neg c3] at hf
    refine lv_iload_n hx hb dX0_placeOfGood_44 rfl (lv_at hl 1 rfl) ?_
    refine lv_goto (tgt := 49) hx hb dX0_placeOfGood_45 (by decide) ?_
    have h1 := Option.some.inj hf
    exact retI hx hb hr hlocks hP hS h1 rfl dX0_placeOfGood_49
  rw [if_neg c2] at hf
  refine lv_iload_n hx hb dX0_placeOfGood_14 rfl (lv_at hl 2 rfl) ?_
  refine lv_aload_n hx hb dX0_placeOfGood_15 rfl (lv_at hl 1 rfl) ?_
  refine xg_6_4 hC hP tw_262 dX0_placeOfGood_16 ?_
  refine xg_1_4 hC hP tw_77 dX0_placeOfGood_19 ?_
  refine lv_iand hx hb dX0_placeOfGood_22 ?_
  refine lv_if_ne (tgt := 38) hx hb dX0_placeOfGood_23 (by decide) (fun c4 => ?_) (fun c4 => ?_)
  · rw [if_neg c4] at hf
    refine lv_iconst (v := 0) hx hb dX0_placeOfGood_38 (by decide) ?_
    refine lv_istore_n (lv' := [(3, .int 0), (2, .int y1), (0, .ref (ad 6)), (1, .int x1)]) hx hb dX0_placeOfGood_39 rfl hl (by decide) rfl (fun ls hl => ?_)
    refine lv_iload_n hx hb dX0_placeOfGood_40 rfl (lv_at hl 0 rfl) ?_
    refine lv_if_eq (tgt := 48) hx hb dX0_placeOfGood_41 (by decide) (fun c5 => ?_) (fun c5 => ?_)
    · rw [if_pos c5] at hf
      refine lv_iconst (v := (-1)) hx hb dX0_placeOfGood_48 (by decide) ?_
      have h1 := Option.some.inj hf
      exact retI hx hb hr hlocks hP hS h1 rfl dX0_placeOfGood_49
    rw [if_neg c5] at hf
    refine lv_iload_n hx hb dX0_placeOfGood_44 rfl (lv_at hl 1 rfl) ?_
    refine lv_goto (tgt := 49) hx hb dX0_placeOfGood_45 (by decide) ?_
    have h1 := Option.some.inj hf
    exact retI hx hb hr hlocks hP hS h1 rfl dX0_placeOfGood_49
  rw [if_pos c4] at hf
  refine lv_aload_n hx hb dX0_placeOfGood_26 rfl (lv_at hl 1 rfl) ?_
  refine lv_iload_n hx hb dX0_placeOfGood_27 rfl (lv_at hl 0 rfl) ?_
  obtain ⟨y6, hcy6, hf⟩ := bnd_some hf
  refine cVi (As := [.int y1]) (rest := []) hC (k_GT_brokenAt l ad cI cJ cZ hcy6) yy_X0_brokenAt tw_577 rfl rfl ⟨by decide, by decide⟩ hP hS (q0 := 6) (ci := 0) rfl rfl (xwa_6 ..) rfl hl.1 rfl (Nat.le_of_ble_eq_true rfl) dX0_placeOfGood_28 (fun H locs hP hS => ?_)
  refine lv_if_ne (tgt := 38) hx hb dX0_placeOfGood_31 (by decide) (fun c7 => ?_) (fun c7 => ?_)
  · rw [if_neg c7] at hf
    refine lv_iconst (v := 0) hx hb dX0_placeOfGood_38 (by decide) ?_
    refine lv_istore_n (lv' := [(3, .int 0), (2, .int y1), (0, .ref (ad 6)), (1, .int x1)]) hx hb dX0_placeOfGood_39 rfl hl (by decide) rfl (fun ls hl => ?_)
    refine lv_iload_n hx hb dX0_placeOfGood_40 rfl (lv_at hl 0 rfl) ?_
    refine lv_if_eq (tgt := 48) hx hb dX0_placeOfGood_41 (by decide) (fun c8 => ?_) (fun c8 => ?_)
    · rw [if_pos c8] at hf
      refine lv_iconst (v := (-1)) hx hb dX0_placeOfGood_48 (by decide) ?_
      have h1 := Option.some.inj hf
      exact retI hx hb hr hlocks hP hS h1 rfl dX0_placeOfGood_49
    rw [if_neg c8] at hf
    refine lv_iload_n hx hb dX0_placeOfGood_44 rfl (lv_at hl 1 rfl) ?_
    refine lv_goto (tgt := 49) hx hb dX0_placeOfGood_45 (by decide) ?_
    have h1 := Option.some.inj hf
    exact retI hx hb hr hlocks hP hS h1 rfl dX0_placeOfGood_49
  rw [if_pos c7] at hf
  refine lv_iconst (v := 1) hx hb dX0_placeOfGood_34 (by decide) ?_
  refine lv_goto (tgt := 39) hx hb dX0_placeOfGood_35 (by decide) ?_
  refine lv_istore_n (lv' := [(3, .int 1), (2, .int y1), (0, .ref (ad 6)), (1, .int x1)]) hx hb dX0_placeOfGood_39 rfl hl (by decide) rfl (fun ls hl => ?_)
  refine lv_iload_n hx hb dX0_placeOfGood_40 rfl (lv_at hl 0 rfl) ?_
  refine lv_if_eq (tgt := 48) hx hb dX0_placeOfGood_41 (by decide) (fun c9 => ?_) (fun c9 => ?_)
  · rw [if_pos c9] at hf
    refine lv_iconst (v := (-1)) hx hb dX0_placeOfGood_48 (by decide) ?_
    have h1 := Option.some.inj hf
    exact retI hx hb hr hlocks hP hS h1 rfl dX0_placeOfGood_49
  rw [if_neg c9] at hf
  refine lv_iload_n hx hb dX0_placeOfGood_44 rfl (lv_at hl 1 rfl) ?_
  refine lv_goto (tgt := 49) hx hb dX0_placeOfGood_45 (by decide) ?_
  have h1 := Option.some.inj hf
  exact retI hx hb hr hlocks hP hS h1 rfl dX0_placeOfGood_49
theorem dX0_sortByDigit_0 : decode cX0_sortByDigit 0 = .ok (.aload_n 0, 1) := by decide +kernel
theorem dX0_sortByDigit_1 : decode cX0_sortByDigit 1 = .ok (.getfield 21, 3) := by decide +kernel
theorem dX0_sortByDigit_4 : decode cX0_sortByDigit 4 = .ok (.iconst 0, 1) := by decide +kernel
theorem dX0_sortByDigit_5 : decode cX0_sortByDigit 5 = .ok (.invokestatic 100, 3) := by decide +kernel
theorem dX0_sortByDigit_8 : decode cX0_sortByDigit 8 = .ok (.iconst 0, 1) := by decide +kernel
theorem dX0_sortByDigit_9 : decode cX0_sortByDigit 9 = .ok (.istore 4, 2) := by decide +kernel
theorem dX0_sortByDigit_11 : decode cX0_sortByDigit 11 = .ok (.iload 4, 2) := by decide +kernel
theorem dX0_sortByDigit_13 : decode cX0_sortByDigit 13 = .ok (.aload_n 0, 1) := by decide +kernel
theorem dX0_sortByDigit_14 : decode cX0_sortByDigit 14 = .ok (.getfield 40, 3) := by decide +kernel
theorem dX0_sortByDigit_17 : decode cX0_sortByDigit 17 = .ok (.if_icmp .ge 27, 3) := by decide +kernel
theorem dX0_sortByDigit_20 : decode cX0_sortByDigit 20 = .ok (.aload_n 0, 1) := by decide +kernel
theorem dX0_sortByDigit_21 : decode cX0_sortByDigit 21 = .ok (.getfield 21, 3) := by decide +kernel
theorem dX0_sortByDigit_24 : decode cX0_sortByDigit 24 = .ok (.aload_n 1, 1) := by decide +kernel
theorem dX0_sortByDigit_25 : decode cX0_sortByDigit 25 = .ok (.iload 4, 2) := by decide +kernel
theorem dX0_sortByDigit_27 : decode cX0_sortByDigit 27 = .ok (.iaload, 1) := by decide +kernel
theorem dX0_sortByDigit_28 : decode cX0_sortByDigit 28 = .ok (.iload_n 3, 1) := by decide +kernel
theorem dX0_sortByDigit_29 : decode cX0_sortByDigit 29 = .ok (.ishr, 1) := by decide +kernel
theorem dX0_sortByDigit_30 : decode cX0_sortByDigit 30 = .ok (.bipush 127, 2) := by decide +kernel
theorem dX0_sortByDigit_32 : decode cX0_sortByDigit 32 = .ok (.iand, 1) := by decide +kernel
theorem dX0_sortByDigit_33 : decode cX0_sortByDigit 33 = .ok (.dup2, 1) := by decide +kernel
theorem dX0_sortByDigit_34 : decode cX0_sortByDigit 34 = .ok (.iaload, 1) := by decide +kernel
theorem dX0_sortByDigit_35 : decode cX0_sortByDigit 35 = .ok (.iconst 1, 1) := by decide +kernel
theorem dX0_sortByDigit_36 : decode cX0_sortByDigit 36 = .ok (.iadd, 1) := by decide +kernel
theorem dX0_sortByDigit_37 : decode cX0_sortByDigit 37 = .ok (.iastore, 1) := by decide +kernel
theorem dX0_sortByDigit_38 : decode cX0_sortByDigit 38 = .ok (.iinc 4 1, 3) := by decide +kernel
theorem dX0_sortByDigit_41 : decode cX0_sortByDigit 41 = .ok (.goto (-30), 3) := by decide +kernel
theorem dX0_sortByDigit_44 : decode cX0_sortByDigit 44 = .ok (.iconst 0, 1) := by decide +kernel
theorem dX0_sortByDigit_45 : decode cX0_sortByDigit 45 = .ok (.istore 4, 2) := by decide +kernel
theorem dX0_sortByDigit_47 : decode cX0_sortByDigit 47 = .ok (.iconst 0, 1) := by decide +kernel
theorem dX0_sortByDigit_48 : decode cX0_sortByDigit 48 = .ok (.istore 5, 2) := by decide +kernel
theorem dX0_sortByDigit_50 : decode cX0_sortByDigit 50 = .ok (.iload 5, 2) := by decide +kernel
theorem dX0_sortByDigit_52 : decode cX0_sortByDigit 52 = .ok (.sipush 128, 3) := by decide +kernel
theorem dX0_sortByDigit_55 : decode cX0_sortByDigit 55 = .ok (.if_icmp .ge 34, 3) := by decide +kernel
theorem dX0_sortByDigit_58 : decode cX0_sortByDigit 58 = .ok (.aload_n 0, 1) := by decide +kernel
theorem dX0_sortByDigit_59 : decode cX0_sortByDigit 59 = .ok (.getfield 21, 3) := by decide +kernel
theorem dX0_sortByDigit_62 : decode cX0_sortByDigit 62 = .ok (.iload 5, 2) := by decide +kernel
theorem dX0_sortByDigit_64 : decode cX0_sortByDigit 64 = .ok (.iaload, 1) := by decide +kernel
theorem dX0_sortByDigit_65 : decode cX0_sortByDigit 65 = .ok (.istore 6, 2) := by decide +kernel
theorem dX0_sortByDigit_67 : decode cX0_sortByDigit 67 = .ok (.aload_n 0, 1) := by decide +kernel
theorem dX0_sortByDigit_68 : decode cX0_sortByDigit 68 = .ok (.getfield 21, 3) := by decide +kernel
theorem dX0_sortByDigit_71 : decode cX0_sortByDigit 71 = .ok (.iload 5, 2) := by decide +kernel
theorem dX0_sortByDigit_73 : decode cX0_sortByDigit 73 = .ok (.iload 4, 2) := by decide +kernel
theorem dX0_sortByDigit_75 : decode cX0_sortByDigit 75 = .ok (.iastore, 1) := by decide +kernel
theorem dX0_sortByDigit_76 : decode cX0_sortByDigit 76 = .ok (.iload 4, 2) := by decide +kernel
theorem dX0_sortByDigit_78 : decode cX0_sortByDigit 78 = .ok (.iload 6, 2) := by decide +kernel
theorem dX0_sortByDigit_80 : decode cX0_sortByDigit 80 = .ok (.iadd, 1) := by decide +kernel
theorem dX0_sortByDigit_81 : decode cX0_sortByDigit 81 = .ok (.istore 4, 2) := by decide +kernel
theorem dX0_sortByDigit_83 : decode cX0_sortByDigit 83 = .ok (.iinc 5 1, 3) := by decide +kernel
theorem dX0_sortByDigit_86 : decode cX0_sortByDigit 86 = .ok (.goto (-36), 3) := by decide +kernel
theorem dX0_sortByDigit_89 : decode cX0_sortByDigit 89 = .ok (.iconst 0, 1) := by decide +kernel
theorem dX0_sortByDigit_90 : decode cX0_sortByDigit 90 = .ok (.istore 5, 2) := by decide +kernel
theorem dX0_sortByDigit_92 : decode cX0_sortByDigit 92 = .ok (.iload 5, 2) := by decide +kernel
theorem dX0_sortByDigit_94 : decode cX0_sortByDigit 94 = .ok (.aload_n 0, 1) := by decide +kernel
theorem dX0_sortByDigit_95 : decode cX0_sortByDigit 95 = .ok (.getfield 40, 3) := by decide +kernel
theorem dX0_sortByDigit_98 : decode cX0_sortByDigit 98 = .ok (.if_icmp .ge 44, 3) := by decide +kernel
theorem dX0_sortByDigit_101 : decode cX0_sortByDigit 101 = .ok (.aload_n 1, 1) := by decide +kernel
theorem dX0_sortByDigit_102 : decode cX0_sortByDigit 102 = .ok (.iload 5, 2) := by decide +kernel
theorem dX0_sortByDigit_104 : decode cX0_sortByDigit 104 = .ok (.iaload, 1) := by decide +kernel
theorem dX0_sortByDigit_105 : decode cX0_sortByDigit 105 = .ok (.iload_n 3, 1) := by decide +kernel
theorem dX0_sortByDigit_106 : decode cX0_sortByDigit 106 = .ok (.ishr, 1) := by decide +kernel
theorem dX0_sortByDigit_107 : decode cX0_sortByDigit 107 = .ok (.bipush 127, 2) := by decide +kernel
theorem dX0_sortByDigit_109 : decode cX0_sortByDigit 109 = .ok (.iand, 1) := by decide +kernel
theorem dX0_sortByDigit_110 : decode cX0_sortByDigit 110 = .ok (.istore 6, 2) := by decide +kernel
theorem dX0_sortByDigit_112 : decode cX0_sortByDigit 112 = .ok (.aload_n 2, 1) := by decide +kernel
theorem dX0_sortByDigit_113 : decode cX0_sortByDigit 113 = .ok (.aload_n 0, 1) := by decide +kernel
theorem dX0_sortByDigit_114 : decode cX0_sortByDigit 114 = .ok (.getfield 21, 3) := by decide +kernel
theorem dX0_sortByDigit_117 : decode cX0_sortByDigit 117 = .ok (.iload 6, 2) := by decide +kernel
theorem dX0_sortByDigit_119 : decode cX0_sortByDigit 119 = .ok (.iaload, 1) := by decide +kernel
theorem dX0_sortByDigit_120 : decode cX0_sortByDigit 120 = .ok (.aload_n 1, 1) := by decide +kernel
theorem dX0_sortByDigit_121 : decode cX0_sortByDigit 121 = .ok (.iload 5, 2) := by decide +kernel
theorem dX0_sortByDigit_123 : decode cX0_sortByDigit 123 = .ok (.iaload, 1) := by decide +kernel
theorem dX0_sortByDigit_124 : decode cX0_sortByDigit 124 = .ok (.iastore, 1) := by decide +kernel
theorem dX0_sortByDigit_125 : decode cX0_sortByDigit 125 = .ok (.aload_n 0, 1) := by decide +kernel
theorem dX0_sortByDigit_126 : decode cX0_sortByDigit 126 = .ok (.getfield 21, 3) := by decide +kernel
theorem dX0_sortByDigit_129 : decode cX0_sortByDigit 129 = .ok (.iload 6, 2) := by decide +kernel
theorem dX0_sortByDigit_131 : decode cX0_sortByDigit 131 = .ok (.dup2, 1) := by decide +kernel
theorem dX0_sortByDigit_132 : decode cX0_sortByDigit 132 = .ok (.iaload, 1) := by decide +kernel
theorem dX0_sortByDigit_133 : decode cX0_sortByDigit 133 = .ok (.iconst 1, 1) := by decide +kernel
theorem dX0_sortByDigit_134 : decode cX0_sortByDigit 134 = .ok (.iadd, 1) := by decide +kernel
theorem dX0_sortByDigit_135 : decode cX0_sortByDigit 135 = .ok (.iastore, 1) := by decide +kernel
theorem dX0_sortByDigit_136 : decode cX0_sortByDigit 136 = .ok (.iinc 5 1, 3) := by decide +kernel
theorem dX0_sortByDigit_139 : decode cX0_sortByDigit 139 = .ok (.goto (-47), 3) := by decide +kernel
theorem dX0_sortByDigit_142 : decode cX0_sortByDigit 142 = .ok (.return_, 1) := by decide +kernel
def GT_sortRS_11 (N : Nat) (k_44 : Int32 → St → Option (St)) : Nat → Int32 → Int32 → St → Option (St)
  | 0, _, _, _ => none
  | n + 1, x3, x4, σ => if (σ.1 18) ≤ x4 then k_44 x3 σ else grd (inb x4 1280) (grd (inb (((σ.2.1 14 (x4).toNatClampNeg) >>> (x3 &&& 31)) &&& 127) 128) (grd (inb (((σ.2.1 14 (x4).toNatClampNeg) >>> (x3 &&& 31)) &&& 127) 128) (lt (sa σ 16 ((((σ.2.1 14 (x4).toNatClampNeg) >>> (x3 &&& 31)) &&& 127)).toNatClampNeg ((σ.2.1 16 ((((σ.2.1 14 (x4).toNatClampNeg) >>> (x3 &&& 31)) &&& 127)).toNatClampNeg) + 1)) (fun σ5 => GT_sortRS_11 N k_44 n x3 (x4 + 1) σ5))))
theorem GT_sortRS_11_s (N : Nat) (k_44 : Int32 → St → Option (St)) (n : Nat) (x3 : Int32) (x4 : Int32) (σ : St) : GT_sortRS_11 N k_44 (n + 1) x3 x4 σ = if (σ.1 18) ≤ x4 then k_44 x3 σ else grd (inb x4 1280) (grd (inb (((σ.2.1 14 (x4).toNatClampNeg) >>> (x3 &&& 31)) &&& 127) 128) (grd (inb (((σ.2.1 14 (x4).toNatClampNeg) >>> (x3 &&& 31)) &&& 127) 128) (lt (sa σ 16 ((((σ.2.1 14 (x4).toNatClampNeg) >>> (x3 &&& 31)) &&& 127)).toNatClampNeg ((σ.2.1 16 ((((σ.2.1 14 (x4).toNatClampNeg) >>> (x3 &&& 31)) &&& 127)).toNatClampNeg) + 1)) (fun σ5 => GT_sortRS_11 N k_44 n x3 (x4 + 1) σ5)))) := rfl
def GT_sortRS_50 (N : Nat) (k_92 : Int32 → Int32 → St → Option (St)) : Nat → Int32 → Int32 → Int32 → St → Option (St)
  | 0, _, _, _, _ => none
  | n + 1, x3, x4, x5, σ => if 128 ≤ x5 then k_92 x3 0 σ else grd (inb x5 128) (lt ((σ.2.1 16 (x5).toNatClampNeg)) (fun y8 => grd (inb x5 128) (lt (sa σ 16 (x5).toNatClampNeg x4) (fun σ10 => GT_sortRS_50 N k_92 n x3 (x4 + y8) (x5 + 1) σ10))))
theorem GT_sortRS_50_s (N : Nat) (k_92 : Int32 → Int32 → St → Option (St)) (n : Nat) (x3 : Int32) (x4 : Int32) (x5 : Int32) (σ : St) : GT_sortRS_50 N k_92 (n + 1) x3 x4 x5 σ = if 128 ≤ x5 then k_92 x3 0 σ else grd (inb x5 128) (lt ((σ.2.1 16 (x5).toNatClampNeg)) (fun y8 => grd (inb x5 128) (lt (sa σ 16 (x5).toNatClampNeg x4) (fun σ10 => GT_sortRS_50 N k_92 n x3 (x4 + y8) (x5 + 1) σ10)))) := rfl
def GT_sortRS_92 (N : Nat) : Nat → Int32 → Int32 → St → Option (St)
  | 0, _, _, _ => none
  | n + 1, x3, x5, σ => if (σ.1 18) ≤ x5 then some σ else grd (inb x5 1280) (lt ((((σ.2.1 14 (x5).toNatClampNeg) >>> (x3 &&& 31)) &&& 127)) (fun y13 => grd (inb y13 128) (grd (inb x5 1280) (grd (inb (σ.2.1 16 (y13).toNatClampNeg) 1280) (lt (sa σ 15 ((σ.2.1 16 (y13).toNatClampNeg)).toNatClampNeg (σ.2.1 14 (x5).toNatClampNeg)) (fun σ17 => grd (inb y13 128) (grd (inb y13 128) (lt (sa σ17 16 (y13).toNatClampNeg ((σ17.2.1 16 (y13).toNatClampNeg) + 1)) (fun σ20 => GT_sortRS_92 N n x3 (x5 + 1) σ20)))))))))
theorem GT_sortRS_92_s (N : Nat) (n : Nat) (x3 : Int32) (x5 : Int32) (σ : St) : GT_sortRS_92 N (n + 1) x3 x5 σ = if (σ.1 18) ≤ x5 then some σ else grd (inb x5 1280) (lt ((((σ.2.1 14 (x5).toNatClampNeg) >>> (x3 &&& 31)) &&& 127)) (fun y13 => grd (inb y13 128) (grd (inb x5 1280) (grd (inb (σ.2.1 16 (y13).toNatClampNeg) 1280) (lt (sa σ 15 ((σ.2.1 16 (y13).toNatClampNeg)).toNatClampNeg (σ.2.1 14 (x5).toNatClampNeg)) (fun σ17 => grd (inb y13 128) (grd (inb y13 128) (lt (sa σ17 16 (y13).toNatClampNeg ((σ17.2.1 16 (y13).toNatClampNeg) + 1)) (fun σ20 => GT_sortRS_92 N n x3 (x5 + 1) σ20))))))))) := rfl
def GT_sortRS_44 (N : Nat) (x3 : Int32) (σ : St) : Option (St) := GT_sortRS_50 N (GT_sortRS_92 N N) N x3 0 0 σ
def GT_sortRS (N : Nat) (x3 : Int32) (σ0 : St) : Option (St) := lt (fillI σ0 16 128 0) (fun σ21 => GT_sortRS_11 N (GT_sortRS_44 N) N x3 0 σ21)
abbrev rm_GT_sortRS : Room := { frames := 1, cells := 0, slots := 0, locals := 23 }
set_option maxHeartbeats 4000000 in
set_option maxRecDepth 100000 in
theorem k_GT_sortRS (l : Launch) (ad : Nat → Nat) (cI cJ cZ : ClassId) {N : Nat} {x3 : Int32} {σ0 : St} {τ : St} (hf : GT_sortRS N x3 σ0 = some τ) : CtV l yX0_sortByDigit (gws (.code yX0_sortByDigit cX0_sortByDigit 7 none)) (rm_GT_sortRS) (ty3 cI cJ cZ) (xw ad cI cJ) [.ref (ad 6), .ref (ad 23), .ref (ad 24), .int x3] σ0 τ := by
  refine CtV.of (by decide) (xw_ok ad cI cJ) (Nat.le_of_ble_eq_true rfl) ?_
  generalize hav : ([.ref (ad 6), .ref (ad 23), .ref (ad 24), .int x3] : List Value) = av
  intro p e s m below meth c D A hC ls hl hP hS
  obtain ⟨hx, hb, hr, hlocks, hml, hown, hts, hK, hN, hD, hA⟩ := id hC
  rw [← hav] at hl
  have hl : lv_has ls 7 [(0, .ref (ad 6)), (1, .ref (ad 23)), (2, .ref (ad 24)), (3, .int x3)] := hl
  unfold GT_sortRS at hf
  have hw_11 : ∀ (k_44 : Int32 → St → Option (St)) (hk_44 : ∀ (x3 : Int32) (σ : St) (H : Heap) (locs : List Loc) (ls : Array Slot), va_P D vwCl ((xw ad cI cJ) σ) H → va_S A s.heap H locs → lv_has ls 7 [(0, .ref (ad 6)), (1, .ref (ad 23)), (2, .ref (ad 24)), (3, .int x3)] → k_44 x3 σ = some τ → W p l e (rm_GT_sortRS) s m av.toArray below meth c H locs 0 0 (QV below av.toArray s D A (xw ad cI cJ) τ) (F0 m 44 ls [])), ∀ (n : Nat), ∀ (x3 : Int32) (x4 : Int32) (σ : St) (H : Heap) (locs : List Loc) (ls : Array Slot), va_P D vwCl ((xw ad cI cJ) σ) H → va_S A s.heap H locs → lv_has ls 7 [(0, .ref (ad 6)), (1, .ref (ad 23)), (2, .ref (ad 24)), (3, .int x3), (4, .int x4)] → GT_sortRS_11 N k_44 n x3 x4 σ = some τ → W p l e (rm_GT_sortRS) s m av.toArray below meth c H locs 0 0 (QV below av.toArray s D A (xw ad cI cJ) τ) (F0 m 11 ls []) := by
    intro k_44 hk_44
    intro n
    induction n with
    | zero =>
      intro x3 x4 σ H locs ls hP hS hl hf
      cases hf
    | succ n ih =>
      intro x3 x4 σ H locs ls hP hS hl hf
      rw [GT_sortRS_11_s] at hf
      refine lv_iload hx hb dX0_sortByDigit_11 (lv_at hl 4 rfl) ?_
      refine lv_aload_n hx hb dX0_sortByDigit_13 rfl (lv_at hl 0 rfl) ?_
      refine xg_6_1 hC hP tw_255 dX0_sortByDigit_14 ?_
      refine lv_icmp_ge (tgt := 44) hx hb dX0_sortByDigit_17 (by decide) (fun c1 => ?_) (fun c1 => ?_)
      · rw [if_pos c1] at hf
        exact hk_44 x3 σ H locs ls hP hS (lv_sub hl [0, 1, 2, 3] rfl) hf
      rw [if_neg c1] at hf
      refine lv_aload_n hx hb dX0_sortByDigit_20 rfl (lv_at hl 0 rfl) ?_
      refine xg_6_9 hC hP tw_267 dX0_sortByDigit_21 ?_
      refine lv_aload_n hx hb dX0_sortByDigit_24 rfl (lv_at hl 1 rfl) ?_
      refine lv_iload hx hb dX0_sortByDigit_25 (lv_at hl 4 rfl) ?_
      obtain ⟨g2, hf⟩ := grd_some hf
      refine xl_23 hC hP g2 dX0_sortByDigit_27 ?_
      refine lv_iload_n hx hb dX0_sortByDigit_28 rfl (lv_at hl 3 rfl) ?_
      refine lv_ishr hx hb dX0_sortByDigit_29 ?_
      refine lv_bipush (v := 127) hx hb dX0_sortByDigit_30 (by decide) ?_
      refine lv_iand hx hb dX0_sortByDigit_32 ?_
      refine lv_dup2_11 hx hb dX0_sortByDigit_33 rfl rfl ?_
      obtain ⟨g3, hf⟩ := grd_some hf
      refine xl_25 hC hP g3 dX0_sortByDigit_34 ?_
      refine lv_iconst (v := 1) hx hb dX0_sortByDigit_35 (by decide) ?_
      refine lv_iadd hx hb dX0_sortByDigit_36 ?_
      obtain ⟨g4, hf⟩ := grd_some hf
      refine xs_25 hC hP hS g4 dX0_sortByDigit_37 (fun H locs hP hS => ?_)
      obtain ⟨σ5, eσ5, hf⟩ := lt_e hf
      rw [← eσ5] at hP
      refine lv_iinc (v := (x4 + 1)) (lv' := [(4, .int (x4 + 1)), (0, .ref (ad 6)), (1, .ref (ad 23)), (2, .ref (ad 24)), (3, .int x3)]) hx hb dX0_sortByDigit_38 hl (k := 4) rfl rfl (by decide) rfl (fun ls hl => ?_)
      refine lv_goto (tgt := 11) hx hb dX0_sortByDigit_41 (by decide) ?_
      exact ih x3 (x4 + 1) σ5 H locs ls hP hS (lv_sub hl [1, 2, 3, 4, 0] rfl) hf
  have hw_50 : ∀ (k_92 : Int32 → Int32 → St → Option (St)) (hk_92 : ∀ (x3 : Int32) (x5 : Int32) (σ : St) (H : Heap) (locs : List Loc) (ls : Array Slot), va_P D vwCl ((xw ad cI cJ) σ) H → va_S A s.heap H locs → lv_has ls 7 [(0, .ref (ad 6)), (1, .ref (ad 23)), (2, .ref (ad 24)), (3, .int x3), (5, .int x5)] → k_92 x3 x5 σ = some τ → W p l e (rm_GT_sortRS) s m av.toArray below meth c H locs 0 0 (QV below av.toArray s D A (xw ad cI cJ) τ) (F0 m 92 ls [])), ∀ (n : Nat), ∀ (x3 : Int32) (x4 : Int32) (x5 : Int32) (σ : St) (H : Heap) (locs : List Loc) (ls : Array Slot), va_P D vwCl ((xw ad cI cJ) σ) H → va_S A s.heap H locs → lv_has ls 7 [(0, .ref (ad 6)), (1, .ref (ad 23)), (2, .ref (ad 24)), (3, .int x3), (4, .int x4), (5, .int x5)] → GT_sortRS_50 N k_92 n x3 x4 x5 σ = some τ → W p l e (rm_GT_sortRS) s m av.toArray below meth c H locs 0 0 (QV below av.toArray s D A (xw ad cI cJ) τ) (F0 m 50 ls []) := by
    intro k_92 hk_92
    intro n
    induction n with
    | zero =>
      intro x3 x4 x5 σ H locs ls hP hS hl hf
      cases hf
    | succ n ih =>
      intro x3 x4 x5 σ H locs ls hP hS hl hf
      rw [GT_sortRS_50_s] at hf
      refine lv_iload hx hb dX0_sortByDigit_50 (lv_at hl 5 rfl) ?_
      refine lv_sipush (v := 128) hx hb dX0_sortByDigit_52 (by decide) ?_
      refine lv_icmp_ge (tgt := 89) hx hb dX0_sortByDigit_55 (by decide) (fun c6 => ?_) (fun c6 => ?_)
      · rw [if_pos c6] at hf
        refine lv_iconst (v := 0) hx hb dX0_sortByDigit_89 (by decide) ?_
        refine lv_istore (lv' := [(5, .int 0), (0, .ref (ad 6)), (1, .ref (ad 23)), (2, .ref (ad 24)), (3, .int x3), (4, .int x4)]) hx hb dX0_sortByDigit_90 hl (by decide) rfl (fun ls hl => ?_)
        exact hk_92 x3 0 σ H locs ls hP hS (lv_sub hl [1, 2, 3, 4, 0] rfl) hf
      rw [if_neg c6] at hf
      refine lv_aload_n hx hb dX0_sortByDigit_58 rfl (lv_at hl 0 rfl) ?_
      refine xg_6_9 hC hP tw_267 dX0_sortByDigit_59 ?_
      refine lv_iload hx hb dX0_sortByDigit_62 (lv_at hl 5 rfl) ?_
      obtain ⟨g7, hf⟩ := grd_some hf
      refine xl_25 hC hP g7 dX0_sortByDigit_64 ?_
      obtain ⟨y8, ey8, hf⟩ := lt_e hf
      rw [← ey8]
      refine lv_istore (lv' := [(6, .int y8), (0, .ref (ad 6)), (1, .ref (ad 23)), (2, .ref (ad 24)), (3, .int x3), (4, .int x4), (5, .int x5)]) hx hb dX0_sortByDigit_65 hl (by decide) rfl (fun ls hl => ?_)
      refine lv_aload_n hx hb dX0_sortByDigit_67 rfl (lv_at hl 1 rfl) ?_
      refine xg_6_9 hC hP tw_267 dX0_sortByDigit_68 ?_
      refine lv_iload hx hb dX0_sortByDigit_71 (lv_at hl 6 rfl) ?_
      refine lv_iload hx hb dX0_sortByDigit_73 (lv_at hl 5 rfl) ?_
      obtain ⟨g9, hf⟩ := grd_some hf
      refine xs_25 hC hP hS g9 dX0_sortByDigit_75 (fun H locs hP hS => ?_)
      obtain ⟨σ10, eσ10, hf⟩ := lt_e hf
      rw [← eσ10] at hP
      refine lv_iload hx hb dX0_sortByDigit_76 (lv_at hl 5 rfl) ?_
      refine lv_iload hx hb dX0_sortByDigit_78 (lv_at hl 0 rfl) ?_
      refine lv_iadd hx hb dX0_sortByDigit_80 ?_
      refine lv_istore (lv' := [(4, .int (x4 + y8)), (6, .int y8), (0, .ref (ad 6)), (1, .ref (ad 23)), (2, .ref (ad 24)), (3, .int x3), (5, .int x5)]) hx hb dX0_sortByDigit_81 hl (by decide) rfl (fun ls hl => ?_)
      refine lv_iinc (v := (x5 + 1)) (lv' := [(5, .int (x5 + 1)), (4, .int (x4 + y8)), (6, .int y8), (0, .ref (ad 6)), (1, .ref (ad 23)), (2, .ref (ad 24)), (3, .int x3)]) hx hb dX0_sortByDigit_83 hl (k := 6) rfl rfl (by decide) rfl (fun ls hl => ?_)
      refine lv_goto (tgt := 50) hx hb dX0_sortByDigit_86 (by decide) ?_
      exact ih x3 (x4 + y8) (x5 + 1) σ10 H locs ls hP hS (lv_sub hl [3, 4, 5, 6, 1, 0] rfl) hf
  have hw_92 : ∀ (n : Nat), ∀ (x3 : Int32) (x5 : Int32) (σ : St) (H : Heap) (locs : List Loc) (ls : Array Slot), va_P D vwCl ((xw ad cI cJ) σ) H → va_S A s.heap H locs → lv_has ls 7 [(0, .ref (ad 6)), (1, .ref (ad 23)), (2, .ref (ad 24)), (3, .int x3), (5, .int x5)] → GT_sortRS_92 N n x3 x5 σ = some τ → W p l e (rm_GT_sortRS) s m av.toArray below meth c H locs 0 0 (QV below av.toArray s D A (xw ad cI cJ) τ) (F0 m 92 ls []) := by
    intro n
    induction n with
    | zero =>
      intro x3 x5 σ H locs ls hP hS hl hf
      cases hf
    | succ n ih =>
      intro x3 x5 σ H locs ls hP hS hl hf
      rw [GT_sortRS_92_s] at hf
      refine lv_iload hx hb dX0_sortByDigit_92 (lv_at hl 4 rfl) ?_
      refine lv_aload_n hx hb dX0_sortByDigit_94 rfl (lv_at hl 0 rfl) ?_
      refine xg_6_1 hC hP tw_255 dX0_sortByDigit_95 ?_
      refine lv_icmp_ge (tgt := 142) hx hb dX0_sortByDigit_98 (by decide) (fun c11 => ?_) (fun c11 => ?_)
      · rw [if_pos c11] at hf
        have h2 := Option.some.inj hf
        exact retV hx hb hr hlocks hP hS h2 dX0_sortByDigit_142
      rw [if_neg c11] at hf
      refine lv_aload_n hx hb dX0_sortByDigit_101 rfl (lv_at hl 1 rfl) ?_
      refine lv_iload hx hb dX0_sortByDigit_102 (lv_at hl 4 rfl) ?_
      obtain ⟨g12, hf⟩ := grd_some hf
      refine xl_23 hC hP g12 dX0_sortByDigit_104 ?_
      refine lv_iload_n hx hb dX0_sortByDigit_105 rfl (lv_at hl 3 rfl) ?_
      refine lv_ishr hx hb dX0_sortByDigit_106 ?_
      refine lv_bipush (v := 127) hx hb dX0_sortByDigit_107 (by decide) ?_
      refine lv_iand hx hb dX0_sortByDigit_109 ?_
      obtain ⟨y13, ey13, hf⟩ := lt_e hf
      rw [← ey13]
      refine lv_istore (lv' := [(6, .int y13), (0, .ref (ad 6)), (1, .ref (ad 23)), (2, .ref (ad 24)), (3, .int x3), (5, .int x5)]) hx hb dX0_sortByDigit_110 hl (by decide) rfl (fun ls hl => ?_)
      refine lv_aload_n hx hb dX0_sortByDigit_112 rfl (lv_at hl 3 rfl) ?_
      refine lv_aload_n hx hb dX0_sortByDigit_113 rfl (lv_at hl 1 rfl) ?_
      refine xg_6_9 hC hP tw_267 dX0_sortByDigit_114 ?_
      refine lv_iload hx hb dX0_sortByDigit_117 (lv_at hl 0 rfl) ?_
      obtain ⟨g14, hf⟩ := grd_some hf
      refine xl_25 hC hP g14 dX0_sortByDigit_119 ?_
      refine lv_aload_n hx hb dX0_sortByDigit_120 rfl (lv_at hl 2 rfl) ?_
      refine lv_iload hx hb dX0_sortByDigit_121 (lv_at hl 5 rfl) ?_
      obtain ⟨g15, hf⟩ := grd_some hf
      refine xl_23 hC hP g15 dX0_sortByDigit_123 ?_
      obtain ⟨g16, hf⟩ := grd_some hf
      refine xs_24 hC hP hS g16 dX0_sortByDigit_124 (fun H locs hP hS => ?_)
      obtain ⟨σ17, eσ17, hf⟩ := lt_e hf
      rw [← eσ17] at hP
      refine lv_aload_n hx hb dX0_sortByDigit_125 rfl (lv_at hl 1 rfl) ?_
      refine xg_6_9 hC hP tw_267 dX0_sortByDigit_126 ?_
      refine lv_iload hx hb dX0_sortByDigit_129 (lv_at hl 0 rfl) ?_
      refine lv_dup2_11 hx hb dX0_sortByDigit_131 rfl rfl ?_
      obtain ⟨g18, hf⟩ := grd_some hf
      refine xl_25 hC hP g18 dX0_sortByDigit_132 ?_
      refine lv_iconst (v := 1) hx hb dX0_sortByDigit_133 (by decide) ?_
      refine lv_iadd hx hb dX0_sortByDigit_134 ?_
      obtain ⟨g19, hf⟩ := grd_some hf
      refine xs_25 hC hP hS g19 dX0_sortByDigit_135 (fun H locs hP hS => ?_)
      obtain ⟨σ20, eσ20, hf⟩ := lt_e hf
      rw [← eσ20] at hP
      refine lv_iinc (v := (x5 + 1)) (lv' := [(5, .int (x5 + 1)), (6, .int y13), (0, .ref (ad 6)), (1, .ref (ad 23)), (2, .ref (ad 24)), (3, .int x3)]) hx hb dX0_sortByDigit_136 hl (k := 5) rfl rfl (by decide) rfl (fun ls hl => ?_)
      refine lv_goto (tgt := 92) hx hb dX0_sortByDigit_139 (by decide) ?_
      exact ih x3 (x5 + 1) σ20 H locs ls hP hS (lv_sub hl [2, 3, 4, 5, 0] rfl) hf
  have hw_44 : ∀ (x3 : Int32) (σ : St) (H : Heap) (locs : List Loc) (ls : Array Slot), va_P D vwCl ((xw ad cI cJ) σ) H → va_S A s.heap H locs → lv_has ls 7 [(0, .ref (ad 6)), (1, .ref (ad 23)), (2, .ref (ad 24)), (3, .int x3)] → GT_sortRS_44 N x3 σ = some τ → W p l e (rm_GT_sortRS) s m av.toArray below meth c H locs 0 0 (QV below av.toArray s D A (xw ad cI cJ) τ) (F0 m 44 ls []) := by
    intro x3 σ H locs ls hP hS hl hf
    unfold GT_sortRS_44 at hf
    refine lv_iconst (v := 0) hx hb dX0_sortByDigit_44 (by decide) ?_
    refine lv_istore (lv' := [(4, .int 0), (0, .ref (ad 6)), (1, .ref (ad 23)), (2, .ref (ad 24)), (3, .int x3)]) hx hb dX0_sortByDigit_45 hl (by decide) rfl (fun ls hl => ?_)
    refine lv_iconst (v := 0) hx hb dX0_sortByDigit_47 (by decide) ?_
    refine lv_istore (lv' := [(5, .int 0), (4, .int 0), (0, .ref (ad 6)), (1, .ref (ad 23)), (2, .ref (ad 24)), (3, .int x3)]) hx hb dX0_sortByDigit_48 hl (by decide) rfl (fun ls hl => ?_)
    exact hw_50 (GT_sortRS_92 N N) (hw_92 N) N x3 0 0 σ H locs ls hP hS (lv_sub hl [2, 3, 4, 5, 1, 0] rfl) hf
  obtain ⟨H, hH⟩ : ∃ z, z = s.heap := ⟨_, rfl⟩
  obtain ⟨locs, hlocs⟩ : ∃ z : List Loc, z = [] := ⟨_, rfl⟩
  rw [← hH] at hP
  have hS : va_S A s.heap H locs := by rw [hH, hlocs]; exact va_S.rf
  suffices hgoal : W p l e _ s m _ below meth c H locs 0 0 _ _ by rw [hH, hlocs] at hgoal; exact hgoal
  refine lv_aload_n hx hb dX0_sortByDigit_0 rfl (lv_at hl 0 rfl) ?_
  refine xg_6_9 hC hP tw_267 dX0_sortByDigit_1 ?_
  refine lv_iconst (v := 0) hx hb dX0_sortByDigit_4 (by decide) ?_
  obtain ⟨σ21, eσ21, hf⟩ := lt_e hf
  refine cSv (As := [.ref (ad 25), .int 0]) (rest := []) hC (k_fill_25 l ad cI cJ cZ σ0 0) yy_J7_fill_53178 tw_610 rfl rfl ⟨by decide, by decide⟩ hP hS rfl hl.1 rfl (Nat.le_of_ble_eq_true rfl) dX0_sortByDigit_5 (fun H locs hP hS => ?_)
  rw [← eσ21] at hP
  refine lv_iconst (v := 0) hx hb dX0_sortByDigit_8 (by decide) ?_
  refine lv_istore (lv' := [(4, .int 0), (0, .ref (ad 6)), (1, .ref (ad 23)), (2, .ref (ad 24)), (3, .int x3)]) hx hb dX0_sortByDigit_9 hl (by decide) rfl (fun ls hl => ?_)
  exact hw_11 (GT_sortRS_44 N) hw_44 N x3 0 σ21 H locs ls hP hS (lv_sub hl [1, 2, 3, 4, 0] rfl) hf
def GT_sortSR_11 (N : Nat) (k_44 : Int32 → St → Option (St)) : Nat → Int32 → Int32 → St → Option (St)
  | 0, _, _, _ => none
  | n + 1, x3, x4, σ => if (σ.1 18) ≤ x4 then k_44 x3 σ else grd (inb x4 1280) (grd (inb (((σ.2.1 15 (x4).toNatClampNeg) >>> (x3 &&& 31)) &&& 127) 128) (grd (inb (((σ.2.1 15 (x4).toNatClampNeg) >>> (x3 &&& 31)) &&& 127) 128) (lt (sa σ 16 ((((σ.2.1 15 (x4).toNatClampNeg) >>> (x3 &&& 31)) &&& 127)).toNatClampNeg ((σ.2.1 16 ((((σ.2.1 15 (x4).toNatClampNeg) >>> (x3 &&& 31)) &&& 127)).toNatClampNeg) + 1)) (fun σ5 => GT_sortSR_11 N k_44 n x3 (x4 + 1) σ5))))
theorem GT_sortSR_11_s (N : Nat) (k_44 : Int32 → St → Option (St)) (n : Nat) (x3 : Int32) (x4 : Int32) (σ : St) : GT_sortSR_11 N k_44 (n + 1) x3 x4 σ = if (σ.1 18) ≤ x4 then k_44 x3 σ else grd (inb x4 1280) (grd (inb (((σ.2.1 15 (x4).toNatClampNeg) >>> (x3 &&& 31)) &&& 127) 128) (grd (inb (((σ.2.1 15 (x4).toNatClampNeg) >>> (x3 &&& 31)) &&& 127) 128) (lt (sa σ 16 ((((σ.2.1 15 (x4).toNatClampNeg) >>> (x3 &&& 31)) &&& 127)).toNatClampNeg ((σ.2.1 16 ((((σ.2.1 15 (x4).toNatClampNeg) >>> (x3 &&& 31)) &&& 127)).toNatClampNeg) + 1)) (fun σ5 => GT_sortSR_11 N k_44 n x3 (x4 + 1) σ5)))) := rfl
def GT_sortSR_50 (N : Nat) (k_92 : Int32 → Int32 → St → Option (St)) : Nat → Int32 → Int32 → Int32 → St → Option (St)
  | 0, _, _, _, _ => none
  | n + 1, x3, x4, x5, σ => if 128 ≤ x5 then k_92 x3 0 σ else grd (inb x5 128) (lt ((σ.2.1 16 (x5).toNatClampNeg)) (fun y8 => grd (inb x5 128) (lt (sa σ 16 (x5).toNatClampNeg x4) (fun σ10 => GT_sortSR_50 N k_92 n x3 (x4 + y8) (x5 + 1) σ10))))
theorem GT_sortSR_50_s (N : Nat) (k_92 : Int32 → Int32 → St → Option (St)) (n : Nat) (x3 : Int32) (x4 : Int32) (x5 : Int32) (σ : St) : GT_sortSR_50 N k_92 (n + 1) x3 x4 x5 σ = if 128 ≤ x5 then k_92 x3 0 σ else grd (inb x5 128) (lt ((σ.2.1 16 (x5).toNatClampNeg)) (fun y8 => grd (inb x5 128) (lt (sa σ 16 (x5).toNatClampNeg x4) (fun σ10 => GT_sortSR_50 N k_92 n x3 (x4 + y8) (x5 + 1) σ10)))) := rfl
def GT_sortSR_92 (N : Nat) : Nat → Int32 → Int32 → St → Option (St)
  | 0, _, _, _ => none
  | n + 1, x3, x5, σ => if (σ.1 18) ≤ x5 then some σ else grd (inb x5 1280) (lt ((((σ.2.1 15 (x5).toNatClampNeg) >>> (x3 &&& 31)) &&& 127)) (fun y13 => grd (inb y13 128) (grd (inb x5 1280) (grd (inb (σ.2.1 16 (y13).toNatClampNeg) 1280) (lt (sa σ 14 ((σ.2.1 16 (y13).toNatClampNeg)).toNatClampNeg (σ.2.1 15 (x5).toNatClampNeg)) (fun σ17 => grd (inb y13 128) (grd (inb y13 128) (lt (sa σ17 16 (y13).toNatClampNeg ((σ17.2.1 16 (y13).toNatClampNeg) + 1)) (fun σ20 => GT_sortSR_92 N n x3 (x5 + 1) σ20)))))))))
theorem GT_sortSR_92_s (N : Nat) (n : Nat) (x3 : Int32) (x5 : Int32) (σ : St) : GT_sortSR_92 N (n + 1) x3 x5 σ = if (σ.1 18) ≤ x5 then some σ else grd (inb x5 1280) (lt ((((σ.2.1 15 (x5).toNatClampNeg) >>> (x3 &&& 31)) &&& 127)) (fun y13 => grd (inb y13 128) (grd (inb x5 1280) (grd (inb (σ.2.1 16 (y13).toNatClampNeg) 1280) (lt (sa σ 14 ((σ.2.1 16 (y13).toNatClampNeg)).toNatClampNeg (σ.2.1 15 (x5).toNatClampNeg)) (fun σ17 => grd (inb y13 128) (grd (inb y13 128) (lt (sa σ17 16 (y13).toNatClampNeg ((σ17.2.1 16 (y13).toNatClampNeg) + 1)) (fun σ20 => GT_sortSR_92 N n x3 (x5 + 1) σ20))))))))) := rfl
def GT_sortSR_44 (N : Nat) (x3 : Int32) (σ : St) : Option (St) := GT_sortSR_50 N (GT_sortSR_92 N N) N x3 0 0 σ
def GT_sortSR (N : Nat) (x3 : Int32) (σ0 : St) : Option (St) := lt (fillI σ0 16 128 0) (fun σ21 => GT_sortSR_11 N (GT_sortSR_44 N) N x3 0 σ21)
abbrev rm_GT_sortSR : Room := { frames := 1, cells := 0, slots := 0, locals := 23 }
set_option maxHeartbeats 4000000 in
set_option maxRecDepth 100000 in
theorem k_GT_sortSR (l : Launch) (ad : Nat → Nat) (cI cJ cZ : ClassId) {N : Nat} {x3 : Int32} {σ0 : St} {τ : St} (hf : GT_sortSR N x3 σ0 = some τ) : CtV l yX0_sortByDigit (gws (.code yX0_sortByDigit cX0_sortByDigit 7 none)) (rm_GT_sortSR) (ty3 cI cJ cZ) (xw ad cI cJ) [.ref (ad 6), .ref (ad 24), .ref (ad 23), .int x3] σ0 τ := by
  refine CtV.of (by decide) (xw_ok ad cI cJ) (Nat.le_of_ble_eq_true rfl) ?_
  generalize hav : ([.ref (ad 6), .ref (ad 24), .ref (ad 23), .int x3] : List Value) = av
  intro p e s m below meth c D A hC ls hl hP hS
  obtain ⟨hx, hb, hr, hlocks, hml, hown, hts, hK, hN, hD, hA⟩ := id hC
  rw [← hav] at hl
  have hl : lv_has ls 7 [(0, .ref (ad 6)), (1, .ref (ad 24)), (2, .ref (ad 23)), (3, .int x3)] := hl
  unfold GT_sortSR at hf
  have hw_11 : ∀ (k_44 : Int32 → St → Option (St)) (hk_44 : ∀ (x3 : Int32) (σ : St) (H : Heap) (locs : List Loc) (ls : Array Slot), va_P D vwCl ((xw ad cI cJ) σ) H → va_S A s.heap H locs → lv_has ls 7 [(0, .ref (ad 6)), (1, .ref (ad 24)), (2, .ref (ad 23)), (3, .int x3)] → k_44 x3 σ = some τ → W p l e (rm_GT_sortSR) s m av.toArray below meth c H locs 0 0 (QV below av.toArray s D A (xw ad cI cJ) τ) (F0 m 44 ls [])), ∀ (n : Nat), ∀ (x3 : Int32) (x4 : Int32) (σ : St) (H : Heap) (locs : List Loc) (ls : Array Slot), va_P D vwCl ((xw ad cI cJ) σ) H → va_S A s.heap H locs → lv_has ls 7 [(0, .ref (ad 6)), (1, .ref (ad 24)), (2, .ref (ad 23)), (3, .int x3), (4, .int x4)] → GT_sortSR_11 N k_44 n x3 x4 σ = some τ → W p l e (rm_GT_sortSR) s m av.toArray below meth c H locs 0 0 (QV below av.toArray s D A (xw ad cI cJ) τ) (F0 m 11 ls []) := by
    intro k_44 hk_44
    intro n
    induction n with
    | zero =>
      intro x3 x4 σ H locs ls hP hS hl hf
      cases hf
    | succ n ih =>
      intro x3 x4 σ H locs ls hP hS hl hf
      rw [GT_sortSR_11_s] at hf
      refine lv_iload hx hb dX0_sortByDigit_11 (lv_at hl 4 rfl) ?_
      refine lv_aload_n hx hb dX0_sortByDigit_13 rfl (lv_at hl 0 rfl) ?_
      refine xg_6_1 hC hP tw_255 dX0_sortByDigit_14 ?_
      refine lv_icmp_ge (tgt := 44) hx hb dX0_sortByDigit_17 (by decide) (fun c1 => ?_) (fun c1 => ?_)
      · rw [if_pos c1] at hf
        exact hk_44 x3 σ H locs ls hP hS (lv_sub hl [0, 1, 2, 3] rfl) hf
      rw [if_neg c1] at hf
      refine lv_aload_n hx hb dX0_sortByDigit_20 rfl (lv_at hl 0 rfl) ?_
      refine xg_6_9 hC hP tw_267 dX0_sortByDigit_21 ?_
      refine lv_aload_n hx hb dX0_sortByDigit_24 rfl (lv_at hl 1 rfl) ?_
      refine lv_iload hx hb dX0_sortByDigit_25 (lv_at hl 4 rfl) ?_
      obtain ⟨g2, hf⟩ := grd_some hf
      refine xl_24 hC hP g2 dX0_sortByDigit_27 ?_
      refine lv_iload_n hx hb dX0_sortByDigit_28 rfl (lv_at hl 3 rfl) ?_
      refine lv_ishr hx hb dX0_sortByDigit_29 ?_
      refine lv_bipush (v := 127) hx hb dX0_sortByDigit_30 (by decide) ?_
      refine lv_iand hx hb dX0_sortByDigit_32 ?_
      refine lv_dup2_11 hx hb dX0_sortByDigit_33 rfl rfl ?_
      obtain ⟨g3, hf⟩ := grd_some hf
      refine xl_25 hC hP g3 dX0_sortByDigit_34 ?_
      refine lv_iconst (v := 1) hx hb dX0_sortByDigit_35 (by decide) ?_
      refine lv_iadd hx hb dX0_sortByDigit_36 ?_
      obtain ⟨g4, hf⟩ := grd_some hf
      refine xs_25 hC hP hS g4 dX0_sortByDigit_37 (fun H locs hP hS => ?_)
      obtain ⟨σ5, eσ5, hf⟩ := lt_e hf
      rw [← eσ5] at hP
      refine lv_iinc (v := (x4 + 1)) (lv' := [(4, .int (x4 + 1)), (0, .ref (ad 6)), (1, .ref (ad 24)), (2, .ref (ad 23)), (3, .int x3)]) hx hb dX0_sortByDigit_38 hl (k := 4) rfl rfl (by decide) rfl (fun ls hl => ?_)
      refine lv_goto (tgt := 11) hx hb dX0_sortByDigit_41 (by decide) ?_
      exact ih x3 (x4 + 1) σ5 H locs ls hP hS (lv_sub hl [1, 2, 3, 4, 0] rfl) hf
  have hw_50 : ∀ (k_92 : Int32 → Int32 → St → Option (St)) (hk_92 : ∀ (x3 : Int32) (x5 : Int32) (σ : St) (H : Heap) (locs : List Loc) (ls : Array Slot), va_P D vwCl ((xw ad cI cJ) σ) H → va_S A s.heap H locs → lv_has ls 7 [(0, .ref (ad 6)), (1, .ref (ad 24)), (2, .ref (ad 23)), (3, .int x3), (5, .int x5)] → k_92 x3 x5 σ = some τ → W p l e (rm_GT_sortSR) s m av.toArray below meth c H locs 0 0 (QV below av.toArray s D A (xw ad cI cJ) τ) (F0 m 92 ls [])), ∀ (n : Nat), ∀ (x3 : Int32) (x4 : Int32) (x5 : Int32) (σ : St) (H : Heap) (locs : List Loc) (ls : Array Slot), va_P D vwCl ((xw ad cI cJ) σ) H → va_S A s.heap H locs → lv_has ls 7 [(0, .ref (ad 6)), (1, .ref (ad 24)), (2, .ref (ad 23)), (3, .int x3), (4, .int x4), (5, .int x5)] → GT_sortSR_50 N k_92 n x3 x4 x5 σ = some τ → W p l e (rm_GT_sortSR) s m av.toArray below meth c H locs 0 0 (QV below av.toArray s D A (xw ad cI cJ) τ) (F0 m 50 ls []) := by
    intro k_92 hk_92
    intro n
    induction n with
    | zero =>
      intro x3 x4 x5 σ H locs ls hP hS hl hf
      cases hf
    | succ n ih =>
      intro x3 x4 x5 σ H locs ls hP hS hl hf
      rw [GT_sortSR_50_s] at hf
      refine lv_iload hx hb dX0_sortByDigit_50 (lv_at hl 5 rfl) ?_
      refine lv_sipush (v := 128) hx hb dX0_sortByDigit_52 (by decide) ?_
      refine lv_icmp_ge (tgt := 89) hx hb dX0_sortByDigit_55 (by decide) (fun c6 => ?_) (fun c6 => ?_)
      · rw [if_pos c6] at hf
        refine lv_iconst (v := 0) hx hb dX0_sortByDigit_89 (by decide) ?_
        refine lv_istore (lv' := [(5, .int 0), (0, .ref (ad 6)), (1, .ref (ad 24)), (2, .ref (ad 23)), (3, .int x3), (4, .int x4)]) hx hb dX0_sortByDigit_90 hl (by decide) rfl (fun ls hl => ?_)
        exact hk_92 x3 0 σ H locs ls hP hS (lv_sub hl [1, 2, 3, 4, 0] rfl) hf
      rw [if_neg c6] at hf
      refine lv_aload_n hx hb dX0_sortByDigit_58 rfl (lv_at hl 0 rfl) ?_
      refine xg_6_9 hC hP tw_267 dX0_sortByDigit_59 ?_
      refine lv_iload hx hb dX0_sortByDigit_62 (lv_at hl 5 rfl) ?_
      obtain ⟨g7, hf⟩ := grd_some hf
      refine xl_25 hC hP g7 dX0_sortByDigit_64 ?_
      obtain ⟨y8, ey8, hf⟩ := lt_e hf
      rw [← ey8]
      refine lv_istore (lv' := [(6, .int y8), (0, .ref (ad 6)), (1, .ref (ad 24)), (2, .ref (ad 23)), (3, .int x3), (4, .int x4), (5, .int x5)]) hx hb dX0_sortByDigit_65 hl (by decide) rfl (fun ls hl => ?_)
      refine lv_aload_n hx hb dX0_sortByDigit_67 rfl (lv_at hl 1 rfl) ?_
      refine xg_6_9 hC hP tw_267 dX0_sortByDigit_68 ?_
      refine lv_iload hx hb dX0_sortByDigit_71 (lv_at hl 6 rfl) ?_
      refine lv_iload hx hb dX0_sortByDigit_73 (lv_at hl 5 rfl) ?_
      obtain ⟨g9, hf⟩ := grd_some hf
      refine xs_25 hC hP hS g9 dX0_sortByDigit_75 (fun H locs hP hS => ?_)
      obtain ⟨σ10, eσ10, hf⟩ := lt_e hf
      rw [← eσ10] at hP
      refine lv_iload hx hb dX0_sortByDigit_76 (lv_at hl 5 rfl) ?_
      refine lv_iload hx hb dX0_sortByDigit_78 (lv_at hl 0 rfl) ?_
      refine lv_iadd hx hb dX0_sortByDigit_80 ?_
      refine lv_istore (lv' := [(4, .int (x4 + y8)), (6, .int y8), (0, .ref (ad 6)), (1, .ref (ad 24)), (2, .ref (ad 23)), (3, .int x3), (5, .int x5)]) hx hb dX0_sortByDigit_81 hl (by decide) rfl (fun ls hl => ?_)
      refine lv_iinc (v := (x5 + 1)) (lv' := [(5, .int (x5 + 1)), (4, .int (x4 + y8)), (6, .int y8), (0, .ref (ad 6)), (1, .ref (ad 24)), (2, .ref (ad 23)), (3, .int x3)]) hx hb dX0_sortByDigit_83 hl (k := 6) rfl rfl (by decide) rfl (fun ls hl => ?_)
      refine lv_goto (tgt := 50) hx hb dX0_sortByDigit_86 (by decide) ?_
      exact ih x3 (x4 + y8) (x5 + 1) σ10 H locs ls hP hS (lv_sub hl [3, 4, 5, 6, 1, 0] rfl) hf
  have hw_92 : ∀ (n : Nat), ∀ (x3 : Int32) (x5 : Int32) (σ : St) (H : Heap) (locs : List Loc) (ls : Array Slot), va_P D vwCl ((xw ad cI cJ) σ) H → va_S A s.heap H locs → lv_has ls 7 [(0, .ref (ad 6)), (1, .ref (ad 24)), (2, .ref (ad 23)), (3, .int x3), (5, .int x5)] → GT_sortSR_92 N n x3 x5 σ = some τ → W p l e (rm_GT_sortSR) s m av.toArray below meth c H locs 0 0 (QV below av.toArray s D A (xw ad cI cJ) τ) (F0 m 92 ls []) := by
    intro n
    induction n with
    | zero =>
      intro x3 x5 σ H locs ls hP hS hl hf
      cases hf
    | succ n ih =>
      intro x3 x5 σ H locs ls hP hS hl hf
      rw [GT_sortSR_92_s] at hf
      refine lv_iload hx hb dX0_sortByDigit_92 (lv_at hl 4 rfl) ?_
      refine lv_aload_n hx hb dX0_sortByDigit_94 rfl (lv_at hl 0 rfl) ?_
      refine xg_6_1 hC hP tw_255 dX0_sortByDigit_95 ?_
      refine lv_icmp_ge (tgt := 142) hx hb dX0_sortByDigit_98 (by decide) (fun c11 => ?_) (fun c11 => ?_)
      · rw [if_pos c11] at hf
        have h2 := Option.some.inj hf
        exact retV hx hb hr hlocks hP hS h2 dX0_sortByDigit_142
      rw [if_neg c11] at hf
      refine lv_aload_n hx hb dX0_sortByDigit_101 rfl (lv_at hl 1 rfl) ?_
      refine lv_iload hx hb dX0_sortByDigit_102 (lv_at hl 4 rfl) ?_
      obtain ⟨g12, hf⟩ := grd_some hf
      refine xl_24 hC hP g12 dX0_sortByDigit_104 ?_
      refine lv_iload_n hx hb dX0_sortByDigit_105 rfl (lv_at hl 3 rfl) ?_
      refine lv_ishr hx hb dX0_sortByDigit_106 ?_
      refine lv_bipush (v := 127) hx hb dX0_sortByDigit_107 (by decide) ?_
      refine lv_iand hx hb dX0_sortByDigit_109 ?_
      obtain ⟨y13, ey13, hf⟩ := lt_e hf
      rw [← ey13]
      refine lv_istore (lv' := [(6, .int y13), (0, .ref (ad 6)), (1, .ref (ad 24)), (2, .ref (ad 23)), (3, .int x3), (5, .int x5)]) hx hb dX0_sortByDigit_110 hl (by decide) rfl (fun ls hl => ?_)
      refine lv_aload_n hx hb dX0_sortByDigit_112 rfl (lv_at hl 3 rfl) ?_
      refine lv_aload_n hx hb dX0_sortByDigit_113 rfl (lv_at hl 1 rfl) ?_
      refine xg_6_9 hC hP tw_267 dX0_sortByDigit_114 ?_
      refine lv_iload hx hb dX0_sortByDigit_117 (lv_at hl 0 rfl) ?_
      obtain ⟨g14, hf⟩ := grd_some hf
      refine xl_25 hC hP g14 dX0_sortByDigit_119 ?_
      refine lv_aload_n hx hb dX0_sortByDigit_120 rfl (lv_at hl 2 rfl) ?_
      refine lv_iload hx hb dX0_sortByDigit_121 (lv_at hl 5 rfl) ?_
      obtain ⟨g15, hf⟩ := grd_some hf
      refine xl_24 hC hP g15 dX0_sortByDigit_123 ?_
      obtain ⟨g16, hf⟩ := grd_some hf
      refine xs_23 hC hP hS g16 dX0_sortByDigit_124 (fun H locs hP hS => ?_)
      obtain ⟨σ17, eσ17, hf⟩ := lt_e hf
      rw [← eσ17] at hP
      refine lv_aload_n hx hb dX0_sortByDigit_125 rfl (lv_at hl 1 rfl) ?_
      refine xg_6_9 hC hP tw_267 dX0_sortByDigit_126 ?_
      refine lv_iload hx hb dX0_sortByDigit_129 (lv_at hl 0 rfl) ?_
      refine lv_dup2_11 hx hb dX0_sortByDigit_131 rfl rfl ?_
      obtain ⟨g18, hf⟩ := grd_some hf
      refine xl_25 hC hP g18 dX0_sortByDigit_132 ?_
      refine lv_iconst (v := 1) hx hb dX0_sortByDigit_133 (by decide) ?_
      refine lv_iadd hx hb dX0_sortByDigit_134 ?_
      obtain ⟨g19, hf⟩ := grd_some hf
      refine xs_25 hC hP hS g19 dX0_sortByDigit_135 (fun H locs hP hS => ?_)
      obtain ⟨σ20, eσ20, hf⟩ := lt_e hf
      rw [← eσ20] at hP
      refine lv_iinc (v := (x5 + 1)) (lv' := [(5, .int (x5 + 1)), (6, .int y13), (0, .ref (ad 6)), (1, .ref (ad 24)), (2, .ref (ad 23)), (3, .int x3)]) hx hb dX0_sortByDigit_136 hl (k := 5) rfl rfl (by decide) rfl (fun ls hl => ?_)
      refine lv_goto (tgt := 92) hx hb dX0_sortByDigit_139 (by decide) ?_
      exact ih x3 (x5 + 1) σ20 H locs ls hP hS (lv_sub hl [2, 3, 4, 5, 0] rfl) hf
  have hw_44 : ∀ (x3 : Int32) (σ : St) (H : Heap) (locs : List Loc) (ls : Array Slot), va_P D vwCl ((xw ad cI cJ) σ) H → va_S A s.heap H locs → lv_has ls 7 [(0, .ref (ad 6)), (1, .ref (ad 24)), (2, .ref (ad 23)), (3, .int x3)] → GT_sortSR_44 N x3 σ = some τ → W p l e (rm_GT_sortSR) s m av.toArray below meth c H locs 0 0 (QV below av.toArray s D A (xw ad cI cJ) τ) (F0 m 44 ls []) := by
    intro x3 σ H locs ls hP hS hl hf
    unfold GT_sortSR_44 at hf
    refine lv_iconst (v := 0) hx hb dX0_sortByDigit_44 (by decide) ?_
    refine lv_istore (lv' := [(4, .int 0), (0, .ref (ad 6)), (1, .ref (ad 24)), (2, .ref (ad 23)), (3, .int x3)]) hx hb dX0_sortByDigit_45 hl (by decide) rfl (fun ls hl => ?_)
    refine lv_iconst (v := 0) hx hb dX0_sortByDigit_47 (by decide) ?_
    refine lv_istore (lv' := [(5, .int 0), (4, .int 0), (0, .ref (ad 6)), (1, .ref (ad 24)), (2, .ref (ad 23)), (3, .int x3)]) hx hb dX0_sortByDigit_48 hl (by decide) rfl (fun ls hl => ?_)
    exact hw_50 (GT_sortSR_92 N N) (hw_92 N) N x3 0 0 σ H locs ls hP hS (lv_sub hl [2, 3, 4, 5, 1, 0] rfl) hf
  obtain ⟨H, hH⟩ : ∃ z, z = s.heap := ⟨_, rfl⟩
  obtain ⟨locs, hlocs⟩ : ∃ z : List Loc, z = [] := ⟨_, rfl⟩
  rw [← hH] at hP
  have hS : va_S A s.heap H locs := by rw [hH, hlocs]; exact va_S.rf
  suffices hgoal : W p l e _ s m _ below meth c H locs 0 0 _ _ by rw [hH, hlocs] at hgoal; exact hgoal
  refine lv_aload_n hx hb dX0_sortByDigit_0 rfl (lv_at hl 0 rfl) ?_
  refine xg_6_9 hC hP tw_267 dX0_sortByDigit_1 ?_
  refine lv_iconst (v := 0) hx hb dX0_sortByDigit_4 (by decide) ?_
  obtain ⟨σ21, eσ21, hf⟩ := lt_e hf
  refine cSv (As := [.ref (ad 25), .int 0]) (rest := []) hC (k_fill_25 l ad cI cJ cZ σ0 0) yy_J7_fill_53178 tw_610 rfl rfl ⟨by decide, by decide⟩ hP hS rfl hl.1 rfl (Nat.le_of_ble_eq_true rfl) dX0_sortByDigit_5 (fun H locs hP hS => ?_)
  rw [← eσ21] at hP
  refine lv_iconst (v := 0) hx hb dX0_sortByDigit_8 (by decide) ?_
  refine lv_istore (lv' := [(4, .int 0), (0, .ref (ad 6)), (1, .ref (ad 24)), (2, .ref (ad 23)), (3, .int x3)]) hx hb dX0_sortByDigit_9 hl (by decide) rfl (fun ls hl => ?_)
  exact hw_11 (GT_sortSR_44 N) hw_44 N x3 0 σ21 H locs ls hP hS (lv_sub hl [1, 2, 3, 4, 0] rfl) hf
theorem dX0_rank_0 : decode cX0_rank 0 = .ok (.aload_n 0, 1) := by decide +kernel
theorem dX0_rank_1 : decode cX0_rank 1 = .ok (.getfield 69, 3) := by decide +kernel
theorem dX0_rank_4 : decode cX0_rank 4 = .ok (.ifCond .eq 4, 3) := by decide +kernel
theorem dX0_rank_7 : decode cX0_rank 7 = .ok (.return_, 1) := by decide +kernel
theorem dX0_rank_8 : decode cX0_rank 8 = .ok (.iconst 0, 1) := by decide +kernel
theorem dX0_rank_9 : decode cX0_rank 9 = .ok (.istore_n 1, 1) := by decide +kernel
theorem dX0_rank_10 : decode cX0_rank 10 = .ok (.iload_n 1, 1) := by decide +kernel
theorem dX0_rank_11 : decode cX0_rank 11 = .ok (.aload_n 0, 1) := by decide +kernel
theorem dX0_rank_12 : decode cX0_rank 12 = .ok (.getfield 40, 3) := by decide +kernel
theorem dX0_rank_15 : decode cX0_rank 15 = .ok (.if_icmp .ge 39, 3) := by decide +kernel
theorem dX0_rank_18 : decode cX0_rank 18 = .ok (.aload_n 0, 1) := by decide +kernel
theorem dX0_rank_19 : decode cX0_rank 19 = .ok (.getfield 15, 3) := by decide +kernel
theorem dX0_rank_22 : decode cX0_rank 22 = .ok (.iload_n 1, 1) := by decide +kernel
theorem dX0_rank_23 : decode cX0_rank 23 = .ok (.aload_n 0, 1) := by decide +kernel
theorem dX0_rank_24 : decode cX0_rank 24 = .ok (.getfield 32, 3) := by decide +kernel
theorem dX0_rank_27 : decode cX0_rank 27 = .ok (.getfield 93, 3) := by decide +kernel
theorem dX0_rank_30 : decode cX0_rank 30 = .ok (.aload_n 0, 1) := by decide +kernel
theorem dX0_rank_31 : decode cX0_rank 31 = .ok (.getfield 11, 3) := by decide +kernel
theorem dX0_rank_34 : decode cX0_rank 34 = .ok (.iload_n 1, 1) := by decide +kernel
theorem dX0_rank_35 : decode cX0_rank 35 = .ok (.iaload, 1) := by decide +kernel
theorem dX0_rank_36 : decode cX0_rank 36 = .ok (.iaload, 1) := by decide +kernel
theorem dX0_rank_37 : decode cX0_rank 37 = .ok (.bipush 11, 2) := by decide +kernel
theorem dX0_rank_39 : decode cX0_rank 39 = .ok (.ishl, 1) := by decide +kernel
theorem dX0_rank_40 : decode cX0_rank 40 = .ok (.aload_n 0, 1) := by decide +kernel
theorem dX0_rank_41 : decode cX0_rank 41 = .ok (.getfield 11, 3) := by decide +kernel
theorem dX0_rank_44 : decode cX0_rank 44 = .ok (.iload_n 1, 1) := by decide +kernel
theorem dX0_rank_45 : decode cX0_rank 45 = .ok (.iaload, 1) := by decide +kernel
theorem dX0_rank_46 : decode cX0_rank 46 = .ok (.ior, 1) := by decide +kernel
theorem dX0_rank_47 : decode cX0_rank 47 = .ok (.iastore, 1) := by decide +kernel
theorem dX0_rank_48 : decode cX0_rank 48 = .ok (.iinc 1 1, 3) := by decide +kernel
theorem dX0_rank_51 : decode cX0_rank 51 = .ok (.goto (-41), 3) := by decide +kernel
theorem dX0_rank_54 : decode cX0_rank 54 = .ok (.aload_n 0, 1) := by decide +kernel
theorem dX0_rank_55 : decode cX0_rank 55 = .ok (.aload_n 0, 1) := by decide +kernel
theorem dX0_rank_56 : decode cX0_rank 56 = .ok (.getfield 15, 3) := by decide +kernel
theorem dX0_rank_59 : decode cX0_rank 59 = .ok (.aload_n 0, 1) := by decide +kernel
theorem dX0_rank_60 : decode cX0_rank 60 = .ok (.getfield 18, 3) := by decide +kernel
theorem dX0_rank_63 : decode cX0_rank 63 = .ok (.bipush 11, 2) := by decide +kernel
theorem dX0_rank_65 : decode cX0_rank 65 = .ok (.invokevirtual 96, 3) := by decide +kernel
theorem dX0_rank_68 : decode cX0_rank 68 = .ok (.aload_n 0, 1) := by decide +kernel
theorem dX0_rank_69 : decode cX0_rank 69 = .ok (.aload_n 0, 1) := by decide +kernel
theorem dX0_rank_70 : decode cX0_rank 70 = .ok (.getfield 18, 3) := by decide +kernel
theorem dX0_rank_73 : decode cX0_rank 73 = .ok (.aload_n 0, 1) := by decide +kernel
theorem dX0_rank_74 : decode cX0_rank 74 = .ok (.getfield 15, 3) := by decide +kernel
theorem dX0_rank_77 : decode cX0_rank 77 = .ok (.bipush 18, 2) := by decide +kernel
theorem dX0_rank_79 : decode cX0_rank 79 = .ok (.invokevirtual 96, 3) := by decide +kernel
theorem dX0_rank_82 : decode cX0_rank 82 = .ok (.aload_n 0, 1) := by decide +kernel
theorem dX0_rank_83 : decode cX0_rank 83 = .ok (.iconst 1, 1) := by decide +kernel
theorem dX0_rank_84 : decode cX0_rank 84 = .ok (.putfield 69, 3) := by decide +kernel
theorem dX0_rank_87 : decode cX0_rank 87 = .ok (.return_, 1) := by decide +kernel
def GT_rank_10 (N : Nat) (k_54 : St → Option (St)) : Nat → Int32 → St → Option (St)
  | 0, _, _ => none
  | n + 1, x1, σ => if (σ.1 18) ≤ x1 then k_54 σ else grd (inb x1 1280) (grd (inb (σ.2.1 13 (x1).toNatClampNeg) 1280) (grd (inb x1 1280) (grd (inb x1 1280) (lt (sa σ 14 (x1).toNatClampNeg (((σ.2.1 7 ((σ.2.1 13 (x1).toNatClampNeg)).toNatClampNeg) <<< (11 &&& 31)) ||| (σ.2.1 13 (x1).toNatClampNeg))) (fun σ6 => GT_rank_10 N k_54 n (x1 + 1) σ6)))))
theorem GT_rank_10_s (N : Nat) (k_54 : St → Option (St)) (n : Nat) (x1 : Int32) (σ : St) : GT_rank_10 N k_54 (n + 1) x1 σ = if (σ.1 18) ≤ x1 then k_54 σ else grd (inb x1 1280) (grd (inb (σ.2.1 13 (x1).toNatClampNeg) 1280) (grd (inb x1 1280) (grd (inb x1 1280) (lt (sa σ 14 (x1).toNatClampNeg (((σ.2.1 7 ((σ.2.1 13 (x1).toNatClampNeg)).toNatClampNeg) <<< (11 &&& 31)) ||| (σ.2.1 13 (x1).toNatClampNeg))) (fun σ6 => GT_rank_10 N k_54 n (x1 + 1) σ6))))) := rfl
def GT_rank_54 (N : Nat)  (σ : St) : Option (St) := bnd (GT_sortRS N 11 σ) (fun σ7 => bnd (GT_sortSR N 18 σ7) (fun σ8 => lt (si σ8 21 1) (fun σ9 => some σ9)))
def GT_rank (N : Nat)  (σ0 : St) : Option (St) := if (σ0.1 21) = 0 then GT_rank_10 N (GT_rank_54 N) N 0 σ0 else some σ0
abbrev rm_GT_rank : Room := { frames := 2, cells := 0, slots := 0, locals := 49 }
set_option maxHeartbeats 4000000 in
set_option maxRecDepth 100000 in
theorem k_GT_rank (l : Launch) (ad : Nat → Nat) (cI cJ cZ : ClassId) {N : Nat}  {σ0 : St} {τ : St} (hf : GT_rank N σ0 = some τ) : CtV l yX0_rank (gws (.code yX0_rank cX0_rank 2 none)) (rm_GT_rank) (ty3 cI cJ cZ) (xw ad cI cJ) [.ref (ad 6)] σ0 τ := by
  refine CtV.of (by decide) (xw_ok ad cI cJ) (Nat.le_of_ble_eq_true rfl) ?_
  generalize hav : ([.ref (ad 6)] : List Value) = av
  intro p e s m below meth c D A hC ls hl hP hS
  obtain ⟨hx, hb, hr, hlocks, hml, hown, hts, hK, hN, hD, hA⟩ := id hC
  rw [← hav] at hl
  have hl : lv_has ls 2 [(0, .ref (ad 6))] := hl
  unfold GT_rank at hf
  have hw_10 : ∀ (k_54 : St → Option (St)) (hk_54 : ∀  (σ : St) (H : Heap) (locs : List Loc) (ls : Array Slot), va_P D vwCl ((xw ad cI cJ) σ) H → va_S A s.heap H locs → lv_has ls 2 [(0, .ref (ad 6))] → k_54 σ = some τ → W p l e (rm_GT_rank) s m av.toArray below meth c H locs 0 0 (QV below av.toArray s D A (xw ad cI cJ) τ) (F0 m 54 ls [])), ∀ (n : Nat), ∀ (x1 : Int32) (σ : St) (H : Heap) (locs : List Loc) (ls : Array Slot), va_P D vwCl ((xw ad cI cJ) σ) H → va_S A s.heap H locs → lv_has ls 2 [(0, .ref (ad 6)), (1, .int x1)] → GT_rank_10 N k_54 n x1 σ = some τ → W p l e (rm_GT_rank) s m av.toArray below meth c H locs 0 0 (QV below av.toArray s D A (xw ad cI cJ) τ) (F0 m 10 ls []) := by
    intro k_54 hk_54
    intro n
    induction n with
    | zero =>
      intro x1 σ H locs ls hP hS hl hf
      cases hf
    | succ n ih =>
      intro x1 σ H locs ls hP hS hl hf
      rw [GT_rank_10_s] at hf
      refine lv_iload_n hx hb dX0_rank_10 rfl (lv_at hl 1 rfl) ?_
      refine lv_aload_n hx hb dX0_rank_11 rfl (lv_at hl 0 rfl) ?_
      refine xg_6_1 hC hP tw_255 dX0_rank_12 ?_
      refine lv_icmp_ge (tgt := 54) hx hb dX0_rank_15 (by decide) (fun c1 => ?_) (fun c1 => ?_)
      · rw [if_pos c1] at hf
        exact hk_54 σ H locs ls hP hS (lv_sub hl [0] rfl) hf
      rw [if_neg c1] at hf
      refine lv_aload_n hx hb dX0_rank_18 rfl (lv_at hl 0 rfl) ?_
      refine xg_6_7 hC hP tw_265 dX0_rank_19 ?_
      refine lv_iload_n hx hb dX0_rank_22 rfl (lv_at hl 1 rfl) ?_
      refine lv_aload_n hx hb dX0_rank_23 rfl (lv_at hl 0 rfl) ?_
      refine xg_6_6 hC hP tw_264 dX0_rank_24 ?_
      refine xg_4_1 hC hP tw_204 dX0_rank_27 ?_
      refine lv_aload_n hx hb dX0_rank_30 rfl (lv_at hl 0 rfl) ?_
      refine xg_6_0 hC hP tw_252 dX0_rank_31 ?_
      refine lv_iload_n hx hb dX0_rank_34 rfl (lv_at hl 1 rfl) ?_
      obtain ⟨g2, hf⟩ := grd_some hf
      refine xl_22 hC hP g2 dX0_rank_35 ?_
      obtain ⟨g3, hf⟩ := grd_some hf
      refine xl_16 hC hP g3 dX0_rank_36 ?_
      refine lv_bipush (v := 11) hx hb dX0_rank_37 (by decide) ?_
      refine lv_ishl hx hb dX0_rank_39 ?_
      refine lv_aload_n hx hb dX0_rank_40 rfl (lv_at hl 0 rfl) ?_
      refine xg_6_0 hC hP tw_252 dX0_rank_41 ?_
      refine lv_iload_n hx hb dX0_rank_44 rfl (lv_at hl 1 rfl) ?_
      obtain ⟨g4, hf⟩ := grd_some hf
      refine xl_22 hC hP g4 dX0_rank_45 ?_
      refine lv_ior hx hb dX0_rank_46 ?_
      obtain ⟨g5, hf⟩ := grd_some hf
      refine xs_23 hC hP hS g5 dX0_rank_47 (fun H locs hP hS => ?_)
      obtain ⟨σ6, eσ6, hf⟩ := lt_e hf
      rw [← eσ6] at hP
      refine lv_iinc (v := (x1 + 1)) (lv' := [(1, .int (x1 + 1)), (0, .ref (ad 6))]) hx hb dX0_rank_48 hl (k := 1) rfl rfl (by decide) rfl (fun ls hl => ?_)
      refine lv_goto (tgt := 10) hx hb dX0_rank_51 (by decide) ?_
      exact ih (x1 + 1) σ6 H locs ls hP hS (lv_sub hl [1, 0] rfl) hf
  have hw_54 : ∀  (σ : St) (H : Heap) (locs : List Loc) (ls : Array Slot), va_P D vwCl ((xw ad cI cJ) σ) H → va_S A s.heap H locs → lv_has ls 2 [(0, .ref (ad 6))] → GT_rank_54 N σ = some τ → W p l e (rm_GT_rank) s m av.toArray below meth c H locs 0 0 (QV below av.toArray s D A (xw ad cI cJ) τ) (F0 m 54 ls []) := by
    intro σ H locs ls hP hS hl hf
    unfold GT_rank_54 at hf
    refine lv_aload_n hx hb dX0_rank_54 rfl (lv_at hl 0 rfl) ?_
    refine lv_aload_n hx hb dX0_rank_55 rfl (lv_at hl 0 rfl) ?_
    refine xg_6_7 hC hP tw_265 dX0_rank_56 ?_
    refine lv_aload_n hx hb dX0_rank_59 rfl (lv_at hl 0 rfl) ?_
    refine xg_6_8 hC hP tw_266 dX0_rank_60 ?_
    refine lv_bipush (v := 11) hx hb dX0_rank_63 (by decide) ?_
    obtain ⟨σ7, hcσ7, hf⟩ := bnd_some hf
    refine cVv (As := [.ref (ad 23), .ref (ad 24), .int 11]) (rest := []) hC (k_GT_sortRS l ad cI cJ cZ hcσ7) yy_X0_sortByDigit tw_606 rfl rfl ⟨by decide, by decide⟩ hP hS (q0 := 6) (ci := 0) rfl rfl (xwa_6 ..) rfl hl.1 rfl (Nat.le_of_ble_eq_true rfl) dX0_rank_65 (fun H locs hP hS => ?_)
    refine lv_aload_n hx hb dX0_rank_68 rfl (lv_at hl 0 rfl) ?_
    refine lv_aload_n hx hb dX0_rank_69 rfl (lv_at hl 0 rfl) ?_
    refine xg_6_8 hC hP tw_266 dX0_rank_70 ?_
    refine lv_aload_n hx hb dX0_rank_73 rfl (lv_at hl 0 rfl) ?_
    refine xg_6_7 hC hP tw_265 dX0_rank_74 ?_
    refine lv_bipush (v := 18) hx hb dX0_rank_77 (by decide) ?_
    obtain ⟨σ8, hcσ8, hf⟩ := bnd_some hf
    refine cVv (As := [.ref (ad 24), .ref (ad 23), .int 18]) (rest := []) hC (k_GT_sortSR l ad cI cJ cZ hcσ8) yy_X0_sortByDigit tw_606 rfl rfl ⟨by decide, by decide⟩ hP hS (q0 := 6) (ci := 0) rfl rfl (xwa_6 ..) rfl hl.1 rfl (Nat.le_of_ble_eq_true rfl) dX0_rank_79 (fun H locs hP hS => ?_)
    refine lv_aload_n hx hb dX0_rank_82 rfl (lv_at hl 0 rfl) ?_
    refine lv_iconst (v := 1) hx hb dX0_rank_83 (by decide) ?_
    refine xp_6_10 hC hP hS (by first | exact Or.inl rfl | exact Or.inr rfl) tw_268 dX0_rank_84 (fun H locs hP hS => ?_)
    obtain ⟨σ9, eσ9, hf⟩ := lt_e hf
    rw [← eσ9] at hP
    have h2 := Option.some.inj hf
    exact retV hx hb hr hlocks hP hS h2 dX0_rank_87
  obtain ⟨H, hH⟩ : ∃ z, z = s.heap := ⟨_, rfl⟩
  obtain ⟨locs, hlocs⟩ : ∃ z : List Loc, z = [] := ⟨_, rfl⟩
  rw [← hH] at hP
  have hS : va_S A s.heap H locs := by rw [hH, hlocs]; exact va_S.rf
  suffices hgoal : W p l e _ s m _ below meth c H locs 0 0 _ _ by rw [hH, hlocs] at hgoal; exact hgoal
  refine lv_aload_n hx hb dX0_rank_0 rfl (lv_at hl 0 rfl) ?_
  refine xg_6_10 hC hP tw_268 dX0_rank_1 ?_
  refine lv_if_eq (tgt := 8) hx hb dX0_rank_4 (by decide) (fun c10 => ?_) (fun c10 => ?_)
  · rw [if_pos c10] at hf
    refine lv_iconst (v := 0) hx hb dX0_rank_8 (by decide) ?_
    refine lv_istore_n (lv' := [(1, .int 0), (0, .ref (ad 6))]) hx hb dX0_rank_9 rfl hl (by decide) rfl (fun ls hl => ?_)
    exact hw_10 (GT_rank_54 N) hw_54 N 0 σ0 H locs ls hP hS (lv_sub hl [1, 0] rfl) hf
  rw [if_neg c10] at hf
  have h2 := Option.some.inj hf
  exact retV hx hb hr hlocks hP hS h2 dX0_rank_7
theorem dX0_placeRanked_0 : decode cX0_placeRanked 0 = .ok (.aload_n 0, 1) := by decide +kernel
theorem dX0_placeRanked_1 : decode cX0_placeRanked 1 = .ok (.invokevirtual 90, 3) := by decide +kernel
theorem dX0_placeRanked_4 : decode cX0_placeRanked 4 = .ok (.aload_n 0, 1) := by decide +kernel
theorem dX0_placeRanked_5 : decode cX0_placeRanked 5 = .ok (.getfield 15, 3) := by decide +kernel
theorem dX0_placeRanked_8 : decode cX0_placeRanked 8 = .ok (.iload_n 1, 1) := by decide +kernel
theorem dX0_placeRanked_9 : decode cX0_placeRanked 9 = .ok (.iaload, 1) := by decide +kernel
theorem dX0_placeRanked_10 : decode cX0_placeRanked 10 = .ok (.sipush 2047, 3) := by decide +kernel
theorem dX0_placeRanked_13 : decode cX0_placeRanked 13 = .ok (.iand, 1) := by decide +kernel
theorem dX0_placeRanked_14 : decode cX0_placeRanked 14 = .ok (.ireturn, 1) := by decide +kernel
def GT_placeRanked (N : Nat) (x1 : Int32) (σ0 : St) : Option (Int32 × St) := bnd (GT_rank N σ0) (fun σ1 => grd (inb x1 1280) (some (((σ1.2.1 14 (x1).toNatClampNeg) &&& 2047), σ1)))
abbrev rm_GT_placeRanked : Room := { frames := 3, cells := 0, slots := 0, locals := 70 }
set_option maxHeartbeats 4000000 in
set_option maxRecDepth 100000 in
theorem k_GT_placeRanked (l : Launch) (ad : Nat → Nat) (cI cJ cZ : ClassId) {N : Nat} {x1 : Int32} {σ0 : St} {r : Int32} {τ : St} (hf : GT_placeRanked N x1 σ0 = some (r, τ)) : CtI l yX0_placeRanked (gws (.code yX0_placeRanked cX0_placeRanked 2 (some .int))) (rm_GT_placeRanked) (ty3 cI cJ cZ) (xw ad cI cJ) [.ref (ad 6), .int x1] σ0 r τ := by
  refine CtI.of (by decide) (xw_ok ad cI cJ) (Nat.le_of_ble_eq_true rfl) ?_
  generalize hav : ([.ref (ad 6), .int x1] : List Value) = av
  intro p e s m below meth c D A hC ls hl hP hS
  obtain ⟨hx, hb, hr, hlocks, hml, hown, hts, hK, hN, hD, hA⟩ := id hC
  rw [← hav] at hl
  have hl : lv_has ls 2 [(0, .ref (ad 6)), (1, .int x1)] := hl
  unfold GT_placeRanked at hf
  obtain ⟨H, hH⟩ : ∃ z, z = s.heap := ⟨_, rfl⟩
  obtain ⟨locs, hlocs⟩ : ∃ z : List Loc, z = [] := ⟨_, rfl⟩
  rw [← hH] at hP
  have hS : va_S A s.heap H locs := by rw [hH, hlocs]; exact va_S.rf
  suffices hgoal : W p l e _ s m _ below meth c H locs 0 0 _ _ by rw [hH, hlocs] at hgoal; exact hgoal
  refine lv_aload_n hx hb dX0_placeRanked_0 rfl (lv_at hl 0 rfl) ?_
  obtain ⟨σ1, hcσ1, hf⟩ := bnd_some hf
  refine cVv (As := []) (rest := []) hC (k_GT_rank l ad cI cJ cZ hcσ1) yy_X0_rank tw_602 rfl rfl ⟨by decide, by decide⟩ hP hS (q0 := 6) (ci := 0) rfl rfl (xwa_6 ..) rfl hl.1 rfl (Nat.le_of_ble_eq_true rfl) dX0_placeRanked_1 (fun H locs hP hS => ?_)
  refine lv_aload_n hx hb dX0_placeRanked_4 rfl (lv_at hl 0 rfl) ?_
  refine xg_6_7 hC hP tw_265 dX0_placeRanked_5 ?_
  refine lv_iload_n hx hb dX0_placeRanked_8 rfl (lv_at hl 1 rfl) ?_
  obtain ⟨g2, hf⟩ := grd_some hf
  refine xl_23 hC hP g2 dX0_placeRanked_9 ?_
  refine lv_sipush (v := 2047) hx hb dX0_placeRanked_10 (by decide) ?_
  refine lv_iand hx hb dX0_placeRanked_13 ?_
  obtain ⟨h1, h2⟩ := ret2 hf
  exact retI hx hb hr hlocks hP hS h1 h2 dX0_placeRanked_14
theorem dX0_slackOf_0 : decode cX0_slackOf 0 = .ok (.aload_n 0, 1) := by decide +kernel
theorem dX0_slackOf_1 : decode cX0_slackOf 1 = .ok (.getfield 40, 3) := by decide +kernel
theorem dX0_slackOf_4 : decode cX0_slackOf 4 = .ok (.ifCond .ne 5, 3) := by decide +kernel
theorem dX0_slackOf_7 : decode cX0_slackOf 7 = .ok (.iconst (-1), 1) := by decide +kernel
theorem dX0_slackOf_8 : decode cX0_slackOf 8 = .ok (.ireturn, 1) := by decide +kernel
theorem dX0_slackOf_9 : decode cX0_slackOf 9 = .ok (.aload_n 0, 1) := by decide +kernel
theorem dX0_slackOf_10 : decode cX0_slackOf 10 = .ok (.iconst 0, 1) := by decide +kernel
theorem dX0_slackOf_11 : decode cX0_slackOf 11 = .ok (.invokevirtual 106, 3) := by decide +kernel
theorem dX0_slackOf_14 : decode cX0_slackOf 14 = .ok (.istore_n 2, 1) := by decide +kernel
theorem dX0_slackOf_15 : decode cX0_slackOf 15 = .ok (.iconst 1, 1) := by decide +kernel
theorem dX0_slackOf_16 : decode cX0_slackOf 16 = .ok (.istore_n 3, 1) := by decide +kernel
theorem dX0_slackOf_17 : decode cX0_slackOf 17 = .ok (.iload_n 3, 1) := by decide +kernel
theorem dX0_slackOf_18 : decode cX0_slackOf 18 = .ok (.aload_n 0, 1) := by decide +kernel
theorem dX0_slackOf_19 : decode cX0_slackOf 19 = .ok (.getfield 40, 3) := by decide +kernel
theorem dX0_slackOf_22 : decode cX0_slackOf 22 = .ok (.if_icmp .ge 64, 3) := by decide +kernel
theorem dX0_slackOf_25 : decode cX0_slackOf 25 = .ok (.aload_n 0, 1) := by decide +kernel
theorem dX0_slackOf_26 : decode cX0_slackOf 26 = .ok (.iload_n 3, 1) := by decide +kernel
theorem dX0_slackOf_27 : decode cX0_slackOf 27 = .ok (.invokevirtual 106, 3) := by decide +kernel
theorem dX0_slackOf_30 : decode cX0_slackOf 30 = .ok (.istore 4, 2) := by decide +kernel
theorem dX0_slackOf_32 : decode cX0_slackOf 32 = .ok (.aload_n 0, 1) := by decide +kernel
theorem dX0_slackOf_33 : decode cX0_slackOf 33 = .ok (.getfield 32, 3) := by decide +kernel
theorem dX0_slackOf_36 : decode cX0_slackOf 36 = .ok (.getfield 53, 3) := by decide +kernel
theorem dX0_slackOf_39 : decode cX0_slackOf 39 = .ok (.iload 4, 2) := by decide +kernel
theorem dX0_slackOf_41 : decode cX0_slackOf 41 = .ok (.iaload, 1) := by decide +kernel
theorem dX0_slackOf_42 : decode cX0_slackOf 42 = .ok (.aload_n 0, 1) := by decide +kernel
theorem dX0_slackOf_43 : decode cX0_slackOf 43 = .ok (.getfield 32, 3) := by decide +kernel
theorem dX0_slackOf_46 : decode cX0_slackOf 46 = .ok (.getfield 53, 3) := by decide +kernel
theorem dX0_slackOf_49 : decode cX0_slackOf 49 = .ok (.iload_n 2, 1) := by decide +kernel
theorem dX0_slackOf_50 : decode cX0_slackOf 50 = .ok (.iaload, 1) := by decide +kernel
theorem dX0_slackOf_51 : decode cX0_slackOf 51 = .ok (.ixor, 1) := by decide +kernel
theorem dX0_slackOf_52 : decode cX0_slackOf 52 = .ok (.iload_n 1, 1) := by decide +kernel
theorem dX0_slackOf_53 : decode cX0_slackOf 53 = .ok (.ishr, 1) := by decide +kernel
theorem dX0_slackOf_54 : decode cX0_slackOf 54 = .ok (.iconst 1, 1) := by decide +kernel
theorem dX0_slackOf_55 : decode cX0_slackOf 55 = .ok (.iand, 1) := by decide +kernel
theorem dX0_slackOf_56 : decode cX0_slackOf 56 = .ok (.ifCond .eq 24, 3) := by decide +kernel
theorem dX0_slackOf_59 : decode cX0_slackOf 59 = .ok (.aload_n 0, 1) := by decide +kernel
theorem dX0_slackOf_60 : decode cX0_slackOf 60 = .ok (.getfield 32, 3) := by decide +kernel
theorem dX0_slackOf_63 : decode cX0_slackOf 63 = .ok (.getfield 93, 3) := by decide +kernel
theorem dX0_slackOf_66 : decode cX0_slackOf 66 = .ok (.iload 4, 2) := by decide +kernel
theorem dX0_slackOf_68 : decode cX0_slackOf 68 = .ok (.iaload, 1) := by decide +kernel
theorem dX0_slackOf_69 : decode cX0_slackOf 69 = .ok (.aload_n 0, 1) := by decide +kernel
theorem dX0_slackOf_70 : decode cX0_slackOf 70 = .ok (.getfield 32, 3) := by decide +kernel
theorem dX0_slackOf_73 : decode cX0_slackOf 73 = .ok (.getfield 93, 3) := by decide +kernel
theorem dX0_slackOf_76 : decode cX0_slackOf 76 = .ok (.iload_n 2, 1) := by decide +kernel
theorem dX0_slackOf_77 : decode cX0_slackOf 77 = .ok (.iaload, 1) := by decide +kernel
theorem dX0_slackOf_78 : decode cX0_slackOf 78 = .ok (.isub, 1) := by decide +kernel
theorem dX0_slackOf_79 : decode cX0_slackOf 79 = .ok (.ireturn, 1) := by decide +kernel
theorem dX0_slackOf_80 : decode cX0_slackOf 80 = .ok (.iinc 3 1, 3) := by decide +kernel
theorem dX0_slackOf_83 : decode cX0_slackOf 83 = .ok (.goto (-66), 3) := by decide +kernel
theorem dX0_slackOf_86 : decode cX0_slackOf 86 = .ok (.iconst (-1), 1) := by decide +kernel
theorem dX0_slackOf_87 : decode cX0_slackOf 87 = .ok (.ireturn, 1) := by decide +kernel
def GT_slackOf_17 (N : Nat) (k_59 : Int32 → Int32 → St → Option (Int32 × St)) : Nat → Int32 → Int32 → Int32 → St → Option (Int32 × St)
  | 0, _, _, _, _ => none
  | n + 1, x1, x2, x3, σ => if (σ.1 18) ≤ x3 then some ((-1), σ) else bnd2 (GT_placeRanked N x3 σ) (fun y2 σ3 => grd (inb y2 1280) (grd (inb x2 1280) (if ((((σ3.2.1 6 (y2).toNatClampNeg) ^^^ (σ3.2.1 6 (x2).toNatClampNeg)) >>> (x1 &&& 31)) &&& 1) = 0 then GT_slackOf_17 N k_59 n x1 x2 (x3 + 1) σ3 else k_59 x2 y2 σ3)))
theorem GT_slackOf_17_s (N : Nat) (k_59 : Int32 → Int32 → St → Option (Int32 × St)) (n : Nat) (x1 : Int32) (x2 : Int32) (x3 : Int32) (σ : St) : GT_slackOf_17 N k_59 (n + 1) x1 x2 x3 σ = if (σ.1 18) ≤ x3 then some ((-1), σ) else bnd2 (GT_placeRanked N x3 σ) (fun y2 σ3 => grd (inb y2 1280) (grd (inb x2 1280) (if ((((σ3.2.1 6 (y2).toNatClampNeg) ^^^ (σ3.2.1 6 (x2).toNatClampNeg)) >>> (x1 &&& 31)) &&& 1) = 0 then GT_slackOf_17 N k_59 n x1 x2 (x3 + 1) σ3 else k_59 x2 y2 σ3))) := rfl
def GT_slackOf_59 (N : Nat) (x2 : Int32) (x4 : Int32) (σ : St) : Option (Int32 × St) := grd (inb x4 1280) (grd (inb x2 1280) (some (((σ.2.1 7 (x4).toNatClampNeg) - (σ.2.1 7 (x2).toNatClampNeg)), σ)))
def GT_slackOf (N : Nat) (x1 : Int32) (σ0 : St) : Option (Int32 × St) := if (σ0.1 18) = 0 then some ((-1), σ0) else bnd2 (GT_placeRanked N 0 σ0) (fun y10 σ11 => GT_slackOf_17 N (GT_slackOf_59 N) N x1 y10 1 σ11)
abbrev rm_GT_slackOf : Room := { frames := 4, cells := 0, slots := 0, locals := 91 }
set_option maxHeartbeats 4000000 in
set_option maxRecDepth 100000 in
theorem k_GT_slackOf (l : Launch) (ad : Nat → Nat) (cI cJ cZ : ClassId) {N : Nat} {x1 : Int32} {σ0 : St} {r : Int32} {τ : St} (hf : GT_slackOf N x1 σ0 = some (r, τ)) : CtI l yX0_slackOf (gws (.code yX0_slackOf cX0_slackOf 5 (some .int))) (rm_GT_slackOf) (ty3 cI cJ cZ) (xw ad cI cJ) [.ref (ad 6), .int x1] σ0 r τ := by
  refine CtI.of (by decide) (xw_ok ad cI cJ) (Nat.le_of_ble_eq_true rfl) ?_
  generalize hav : ([.ref (ad 6), .int x1] : List Value) = av
  intro p e s m below meth c D A hC ls hl hP hS
  obtain ⟨hx, hb, hr, hlocks, hml, hown, hts, hK, hN, hD, hA⟩ := id hC
  rw [← hav] at hl
  have hl : lv_has ls 5 [(0, .ref (ad 6)), (1, .int x1)] := hl
  unfold GT_slackOf at hf
  have hw_17 : ∀ (k_59 : Int32 → Int32 → St → Option (Int32 × St)) (hk_59 : ∀ (x2 : Int32) (x4 : Int32) (σ : St) (H : Heap) (locs : List Loc) (ls : Array Slot), va_P D vwCl ((xw ad cI cJ) σ) H → va_S A s.heap H locs → lv_has ls 5 [(0, .ref (ad 6)), (2, .int x2), (4, .int x4)] → k_59 x2 x4 σ = some (r, τ) → W p l e (rm_GT_slackOf) s m av.toArray below meth c H locs 0 0 (QI below av.toArray s D A (xw ad cI cJ) r τ) (F0 m 59 ls [])), ∀ (n : Nat), ∀ (x1 : Int32) (x2 : Int32) (x3 : Int32) (σ : St) (H : Heap) (locs : List Loc) (ls : Array Slot), va_P D vwCl ((xw ad cI cJ) σ) H → va_S A s.heap H locs → lv_has ls 5 [(0, .ref (ad 6)), (1, .int x1), (2, .int x2), (3, .int x3)] → GT_slackOf_17 N k_59 n x1 x2 x3 σ = some (r, τ) → W p l e (rm_GT_slackOf) s m av.toArray below meth c H locs 0 0 (QI below av.toArray s D A (xw ad cI cJ) r τ) (F0 m 17 ls []) := by
    intro k_59 hk_59
    intro n
    induction n with
    | zero =>
      intro x1 x2 x3 σ H locs ls hP hS hl hf
      cases hf
    | succ n ih =>
      intro x1 x2 x3 σ H locs ls hP hS hl hf
      rw [GT_slackOf_17_s] at hf
      refine lv_iload_n hx hb dX0_slackOf_17 rfl (lv_at hl 3 rfl) ?_
      refine lv_aload_n hx hb dX0_slackOf_18 rfl (lv_at hl 0 rfl) ?_
      refine xg_6_1 hC hP tw_255 dX0_slackOf_19 ?_
      refine lv_icmp_ge (tgt := 86) hx hb dX0_slackOf_22 (by decide) (fun c1 => ?_) (fun c1 => ?_)
      · rw [if_pos c1] at hf
        refine lv_iconst (v := (-1)) hx hb dX0_slackOf_86 (by decide) ?_
        obtain ⟨h1, h2⟩ := ret2 hf
        exact retI hx hb hr hlocks hP hS h1 h2 dX0_slackOf_87
      rw [if_neg c1] at hf
      refine lv_aload_n hx hb dX0_slackOf_25 rfl (lv_at hl 0 rfl) ?_
      refine lv_iload_n hx hb dX0_slackOf_26 rfl (lv_at hl 3 rfl) ?_
      obtain ⟨y2, σ3, hcy2, hf⟩ := bnd2_some hf
      refine cVi (As := [.int x3]) (rest := []) hC (k_GT_placeRanked l ad cI cJ cZ hcy2) yy_X0_placeRanked tw_619 rfl rfl ⟨by decide, by decide⟩ hP hS (q0 := 6) (ci := 0) rfl rfl (xwa_6 ..) rfl hl.1 rfl (Nat.le_of_ble_eq_true rfl) dX0_slackOf_27 (fun H locs hP hS => ?_)
      refine lv_istore (lv' := [(4, .int y2), (0, .ref (ad 6)), (1, .int x1), (2, .int x2), (3, .int x3)]) hx hb dX0_slackOf_30 hl (by decide) rfl (fun ls hl => ?_)
      refine lv_aload_n hx hb dX0_slackOf_32 rfl (lv_at hl 1 rfl) ?_
      refine xg_6_6 hC hP tw_264 dX0_slackOf_33 ?_
      refine xg_4_0 hC hP tw_200 dX0_slackOf_36 ?_
      refine lv_iload hx hb dX0_slackOf_39 (lv_at hl 0 rfl) ?_
      obtain ⟨g4, hf⟩ := grd_some hf
      refine xl_15 hC hP g4 dX0_slackOf_41 ?_
      refine lv_aload_n hx hb dX0_slackOf_42 rfl (lv_at hl 1 rfl) ?_
      refine xg_6_6 hC hP tw_264 dX0_slackOf_43 ?_
      refine xg_4_0 hC hP tw_200 dX0_slackOf_46 ?_
      refine lv_iload_n hx hb dX0_slackOf_49 rfl (lv_at hl 3 rfl) ?_
      obtain ⟨g5, hf⟩ := grd_some hf
      refine xl_15 hC hP g5 dX0_slackOf_50 ?_
      refine lv_ixor hx hb dX0_slackOf_51 ?_
      refine lv_iload_n hx hb dX0_slackOf_52 rfl (lv_at hl 2 rfl) ?_
      refine lv_ishr hx hb dX0_slackOf_53 ?_
      refine lv_iconst (v := 1) hx hb dX0_slackOf_54 (by decide) ?_
      refine lv_iand hx hb dX0_slackOf_55 ?_
      refine lv_if_eq (tgt := 80) hx hb dX0_slackOf_56 (by decide) (fun c6 => ?_) (fun c6 => ?_)
      · rw [if_pos c6] at hf
        refine lv_iinc (v := (x3 + 1)) (lv' := [(3, .int (x3 + 1)), (4, .int y2), (0, .ref (ad 6)), (1, .int x1), (2, .int x2)]) hx hb dX0_slackOf_80 hl (k := 4) rfl rfl (by decide) rfl (fun ls hl => ?_)
        refine lv_goto (tgt := 17) hx hb dX0_slackOf_83 (by decide) ?_
        exact ih x1 x2 (x3 + 1) σ3 H locs ls hP hS (lv_sub hl [2, 3, 4, 0] rfl) hf
      rw [if_neg c6] at hf
      exact hk_59 x2 y2 σ3 H locs ls hP hS (lv_sub hl [1, 3, 0] rfl) hf
  have hw_59 : ∀ (x2 : Int32) (x4 : Int32) (σ : St) (H : Heap) (locs : List Loc) (ls : Array Slot), va_P D vwCl ((xw ad cI cJ) σ) H → va_S A s.heap H locs → lv_has ls 5 [(0, .ref (ad 6)), (2, .int x2), (4, .int x4)] → GT_slackOf_59 N x2 x4 σ = some (r, τ) → W p l e (rm_GT_slackOf) s m av.toArray below meth c H locs 0 0 (QI below av.toArray s D A (xw ad cI cJ) r τ) (F0 m 59 ls []) := by
    intro x2 x4 σ H locs ls hP hS hl hf
    unfold GT_slackOf_59 at hf
    refine lv_aload_n hx hb dX0_slackOf_59 rfl (lv_at hl 0 rfl) ?_
    refine xg_6_6 hC hP tw_264 dX0_slackOf_60 ?_
    refine xg_4_1 hC hP tw_204 dX0_slackOf_63 ?_
    refine lv_iload hx hb dX0_slackOf_66 (lv_at hl 2 rfl) ?_
    obtain ⟨g7, hf⟩ := grd_some hf
    refine xl_16 hC hP g7 dX0_slackOf_68 ?_
    refine lv_aload_n hx hb dX0_slackOf_69 rfl (lv_at hl 0 rfl) ?_
    refine xg_6_6 hC hP tw_264 dX0_slackOf_70 ?_
    refine xg_4_1 hC hP tw_204 dX0_slackOf_73 ?_
    refine lv_iload_n hx hb dX0_slackOf_76 rfl (lv_at hl 1 rfl) ?_
    obtain ⟨g8, hf⟩ := grd_some hf
    refine xl_16 hC hP g8 dX0_slackOf_77 ?_
    refine lv_isub hx hb dX0_slackOf_78 ?_
    obtain ⟨h1, h2⟩ := ret2 hf
    exact retI hx hb hr hlocks hP hS h1 h2 dX0_slackOf_79
  obtain ⟨H, hH⟩ : ∃ z, z = s.heap := ⟨_, rfl⟩
  obtain ⟨locs, hlocs⟩ : ∃ z : List Loc, z = [] := ⟨_, rfl⟩
  rw [← hH] at hP
  have hS : va_S A s.heap H locs := by rw [hH, hlocs]; exact va_S.rf
  suffices hgoal : W p l e _ s m _ below meth c H locs 0 0 _ _ by rw [hH, hlocs] at hgoal; exact hgoal
  refine lv_aload_n hx hb dX0_slackOf_0 rfl (lv_at hl 0 rfl) ?_
  refine xg_6_1 hC hP tw_255 dX0_slackOf_1 ?_
  refine lv_if_ne (tgt := 9) hx hb dX0_slackOf_4 (by decide) (fun c9 => ?_) (fun c9 => ?_)
  · rw [if_neg c9] at hf
    refine lv_aload_n hx hb dX0_slackOf_9 rfl (lv_at hl 0 rfl) ?_
    refine lv_iconst (v := 0) hx hb dX0_slackOf_10 (by decide) ?_
    obtain ⟨y10, σ11, hcy10, hf⟩ := bnd2_some hf
    refine cVi (As := [.int 0]) (rest := []) hC (k_GT_placeRanked l ad cI cJ cZ hcy10) yy_X0_placeRanked tw_619 rfl rfl ⟨by decide, by decide⟩ hP hS (q0 := 6) (ci := 0) rfl rfl (xwa_6 ..) rfl hl.1 rfl (Nat.le_of_ble_eq_true rfl) dX0_slackOf_11 (fun H locs hP hS => ?_)
    refine lv_istore_n (lv' := [(2, .int y10), (0, .ref (ad 6)), (1, .int x1)]) hx hb dX0_slackOf_14 rfl hl (by decide) rfl (fun ls hl => ?_)
    refine lv_iconst (v := 1) hx hb dX0_slackOf_15 (by decide) ?_
    refine lv_istore_n (lv' := [(3, .int 1), (2, .int y10), (0, .ref (ad 6)), (1, .int x1)]) hx hb dX0_slackOf_16 rfl hl (by decide) rfl (fun ls hl => ?_)
    exact hw_17 (GT_slackOf_59 N) hw_59 N x1 y10 1 σ11 H locs ls hP hS (lv_sub hl [2, 3, 1, 0] rfl) hf
  rw [if_pos c9] at hf
  refine lv_iconst (v := (-1)) hx hb dX0_slackOf_7 (by decide) ?_
  obtain ⟨h1, h2⟩ := ret2 hf
  exact retI hx hb hr hlocks hP hS h1 h2 dX0_slackOf_8
theorem dX0_barsAll_0 : decode cX0_barsAll 0 = .ok (.iconst 0, 1) := by decide +kernel
theorem dX0_barsAll_1 : decode cX0_barsAll 1 = .ok (.istore_n 2, 1) := by decide +kernel
theorem dX0_barsAll_2 : decode cX0_barsAll 2 = .ok (.iload_n 2, 1) := by decide +kernel
theorem dX0_barsAll_3 : decode cX0_barsAll 3 = .ok (.bipush 31, 2) := by decide +kernel
theorem dX0_barsAll_5 : decode cX0_barsAll 5 = .ok (.if_icmp .gt 28, 3) := by decide +kernel
theorem dX0_barsAll_8 : decode cX0_barsAll 8 = .ok (.aload_n 0, 1) := by decide +kernel
theorem dX0_barsAll_9 : decode cX0_barsAll 9 = .ok (.getfield 47, 3) := by decide +kernel
theorem dX0_barsAll_12 : decode cX0_barsAll 12 = .ok (.iload_n 2, 1) := by decide +kernel
theorem dX0_barsAll_13 : decode cX0_barsAll 13 = .ok (.ishr, 1) := by decide +kernel
theorem dX0_barsAll_14 : decode cX0_barsAll 14 = .ok (.iconst 1, 1) := by decide +kernel
theorem dX0_barsAll_15 : decode cX0_barsAll 15 = .ok (.iand, 1) := by decide +kernel
theorem dX0_barsAll_16 : decode cX0_barsAll 16 = .ok (.ifCond .eq 11, 3) := by decide +kernel
theorem dX0_barsAll_19 : decode cX0_barsAll 19 = .ok (.iload_n 2, 1) := by decide +kernel
theorem dX0_barsAll_20 : decode cX0_barsAll 20 = .ok (.iload_n 1, 1) := by decide +kernel
theorem dX0_barsAll_21 : decode cX0_barsAll 21 = .ok (.iand, 1) := by decide +kernel
theorem dX0_barsAll_22 : decode cX0_barsAll 22 = .ok (.ifCond .ne 5, 3) := by decide +kernel
theorem dX0_barsAll_25 : decode cX0_barsAll 25 = .ok (.iconst 0, 1) := by decide +kernel
theorem dX0_barsAll_26 : decode cX0_barsAll 26 = .ok (.ireturn, 1) := by decide +kernel
theorem dX0_barsAll_27 : decode cX0_barsAll 27 = .ok (.iinc 2 1, 3) := by decide +kernel
theorem dX0_barsAll_30 : decode cX0_barsAll 30 = .ok (.goto (-28), 3) := by decide +kernel
theorem dX0_barsAll_33 : decode cX0_barsAll 33 = .ok (.iconst 1, 1) := by decide +kernel
theorem dX0_barsAll_34 : decode cX0_barsAll 34 = .ok (.ireturn, 1) := by decide +kernel
def GT_barsAll_2 (N : Nat) : Nat → Int32 → Int32 → St → Option (Int32)
  | 0, _, _, _ => none
  | n + 1, x1, x2, σ0 => if 31 < x2 then some 1 else if (((σ0.1 22) >>> (x2 &&& 31)) &&& 1) = 0 then GT_barsAll_2 N n x1 (x2 + 1) σ0 else if (x2 &&& x1) = 0 then some 0 else GT_barsAll_2 N n x1 (x2 + 1) σ0
theorem GT_barsAll_2_s (N : Nat) (n : Nat) (x1 : Int32) (x2 : Int32) (σ0 : St) : GT_barsAll_2 N (n + 1) x1 x2 σ0 = if 31 < x2 then some 1 else if (((σ0.1 22) >>> (x2 &&& 31)) &&& 1) = 0 then GT_barsAll_2 N n x1 (x2 + 1) σ0 else if (x2 &&& x1) = 0 then some 0 else GT_barsAll_2 N n x1 (x2 + 1) σ0 := rfl
def GT_barsAll (N : Nat) (x1 : Int32) (σ0 : St) : Option (Int32) := GT_barsAll_2 N N x1 0 σ0
abbrev rm_GT_barsAll : Room := { frames := 0, cells := 0, slots := 0, locals := 0 }
set_option maxHeartbeats 4000000 in
set_option maxRecDepth 100000 in
theorem k_GT_barsAll (l : Launch) (ad : Nat → Nat) (cI cJ cZ : ClassId) {N : Nat} {x1 : Int32} {σ0 : St} {r : Int32} (hf : GT_barsAll N x1 σ0 = some r) : CtI l yX0_barsAll (gws (.code yX0_barsAll cX0_barsAll 3 (some .boolean))) (rm_GT_barsAll) (ty3 cI cJ cZ) (xw ad cI cJ) [.ref (ad 6), .int x1] σ0 r σ0 := by
  refine CtI.of (by decide) (xw_ok ad cI cJ) (Nat.le_of_ble_eq_true rfl) ?_
  generalize hav : ([.ref (ad 6), .int x1] : List Value) = av
  intro p e s m below meth c D A hC ls hl hP hS
  obtain ⟨hx, hb, hr, hlocks, hml, hown, hts, hK, hN, hD, hA⟩ := id hC
  rw [← hav] at hl
  have hl : lv_has ls 3 [(0, .ref (ad 6)), (1, .int x1)] := hl
  unfold GT_barsAll at hf
  have hw_2 : ∀ (n : Nat), ∀ (x1 : Int32) (x2 : Int32) (H : Heap) (locs : List Loc) (ls : Array Slot), va_P D vwCl ((xw ad cI cJ) σ0) H → va_S A s.heap H locs → lv_has ls 3 [(0, .ref (ad 6)), (1, .int x1), (2, .int x2)] → GT_barsAll_2 N n x1 x2 σ0 = some r → W p l e (rm_GT_barsAll) s m av.toArray below meth c H locs 0 0 (QI below av.toArray s D A (xw ad cI cJ) r σ0) (F0 m 2 ls []) := by
    intro n
    induction n with
    | zero =>
      intro x1 x2 H locs ls hP hS hl hf
      cases hf
    | succ n ih =>
      intro x1 x2 H locs ls hP hS hl hf
      rw [GT_barsAll_2_s] at hf
      refine lv_iload_n hx hb dX0_barsAll_2 rfl (lv_at hl 2 rfl) ?_
      refine lv_bipush (v := 31) hx hb dX0_barsAll_3 (by decide) ?_
      refine lv_icmp_gt (tgt := 33) hx hb dX0_barsAll_5 (by decide) (fun c1 => ?_) (fun c1 => ?_)
      · rw [if_pos c1] at hf
        refine lv_iconst (v := 1) hx hb dX0_barsAll_33 (by decide) ?_
        have h1 := Option.some.inj hf
        exact retZ hx hb hr hlocks hP hS (Or.inr rfl) h1 rfl dX0_barsAll_34
      rw [if_neg c1] at hf
      refine lv_aload_n hx hb dX0_barsAll_8 rfl (lv_at hl 0 rfl) ?_
      refine xg_6_11 hC hP tw_269 dX0_barsAll_9 ?_
      refine lv_iload_n hx hb dX0_barsAll_12 rfl (lv_at hl 2 rfl) ?_
      refine lv_ishr hx hb dX0_barsAll_13 ?_
      refine lv_iconst (v := 1) hx hb dX0_barsAll_14 (by decide) ?_
      refine lv_iand hx hb dX0_barsAll_15 ?_
      refine lv_if_eq (tgt := 27) hx hb dX0_barsAll_16 (by decide) (fun c2 => ?_) (fun c2 => ?_)
      · rw [if_pos c2] at hf
        refine lv_iinc (v := (x2 + 1)) (lv' := [(2, .int (x2 + 1)), (0, .ref (ad 6)), (1, .int x1)]) hx hb dX0_barsAll_27 hl (k := 2) rfl rfl (by decide) rfl (fun ls hl => ?_)
        refine lv_goto (tgt := 2) hx hb dX0_barsAll_30 (by decide) ?_
        exact ih x1 (x2 + 1) H locs ls hP hS (lv_sub hl [1, 2, 0] rfl) hf
      rw [if_neg c2] at hf
      refine lv_iload_n hx hb dX0_barsAll_19 rfl (lv_at hl 2 rfl) ?_
      refine lv_iload_n hx hb dX0_barsAll_20 rfl (lv_at hl 1 rfl) ?_
      refine lv_iand hx hb dX0_barsAll_21 ?_
      refine lv_if_ne (tgt := 27) hx hb dX0_barsAll_22 (by decide) (fun c3 => ?_) (fun c3 => ?_)
      · rw [if_neg c3] at hf
        refine lv_iinc (v := (x2 + 1)) (lv' := [(2, .int (x2 + 1)), (0, .ref (ad 6)), (1, .int x1)]) hx hb dX0_barsAll_27 hl (k := 2) rfl rfl (by decide) rfl (fun ls hl => ?_)
        refine lv_goto (tgt := 2) hx hb dX0_barsAll_30 (by decide) ?_
        exact ih x1 (x2 + 1) H locs ls hP hS (lv_sub hl [1, 2, 0] rfl) hf
      rw [if_pos c3] at hf
      refine lv_iconst (v := 0) hx hb dX0_barsAll_25 (by decide) ?_
      have h1 := Option.some.inj hf
      exact retZ hx hb hr hlocks hP hS (Or.inl rfl) h1 rfl dX0_barsAll_26
  obtain ⟨H, hH⟩ : ∃ z, z = s.heap := ⟨_, rfl⟩
  obtain ⟨locs, hlocs⟩ : ∃ z : List Loc, z = [] := ⟨_, rfl⟩
  rw [← hH] at hP
  have hS : va_S A s.heap H locs := by rw [hH, hlocs]; exact va_S.rf
  suffices hgoal : W p l e _ s m _ below meth c H locs 0 0 _ _ by rw [hH, hlocs] at hgoal; exact hgoal
  refine lv_iconst (v := 0) hx hb dX0_barsAll_0 (by decide) ?_
  refine lv_istore_n (lv' := [(2, .int 0), (0, .ref (ad 6)), (1, .int x1)]) hx hb dX0_barsAll_1 rfl hl (by decide) rfl (fun ls hl => ?_)
  exact hw_2 N x1 0 H locs ls hP hS (lv_sub hl [1, 2, 0] rfl) hf
theorem dX0_fewestBarring_0 : decode cX0_fewestBarring 0 = .ok (.bipush 31, 2) := by decide +kernel
theorem dX0_fewestBarring_2 : decode cX0_fewestBarring 2 = .ok (.istore_n 1, 1) := by decide +kernel
theorem dX0_fewestBarring_3 : decode cX0_fewestBarring 3 = .ok (.iconst 0, 1) := by decide +kernel
theorem dX0_fewestBarring_4 : decode cX0_fewestBarring 4 = .ok (.istore_n 2, 1) := by decide +kernel
theorem dX0_fewestBarring_5 : decode cX0_fewestBarring 5 = .ok (.iload_n 2, 1) := by decide +kernel
theorem dX0_fewestBarring_6 : decode cX0_fewestBarring 6 = .ok (.bipush 31, 2) := by decide +kernel
theorem dX0_fewestBarring_8 : decode cX0_fewestBarring 8 = .ok (.if_icmp .ge 30, 3) := by decide +kernel
theorem dX0_fewestBarring_11 : decode cX0_fewestBarring 11 = .ok (.iload_n 2, 1) := by decide +kernel
theorem dX0_fewestBarring_12 : decode cX0_fewestBarring 12 = .ok (.invokestatic 109, 3) := by decide +kernel
theorem dX0_fewestBarring_15 : decode cX0_fewestBarring 15 = .ok (.iload_n 1, 1) := by decide +kernel
theorem dX0_fewestBarring_16 : decode cX0_fewestBarring 16 = .ok (.invokestatic 109, 3) := by decide +kernel
theorem dX0_fewestBarring_19 : decode cX0_fewestBarring 19 = .ok (.if_icmp .ge 13, 3) := by decide +kernel
theorem dX0_fewestBarring_22 : decode cX0_fewestBarring 22 = .ok (.aload_n 0, 1) := by decide +kernel
theorem dX0_fewestBarring_23 : decode cX0_fewestBarring 23 = .ok (.iload_n 2, 1) := by decide +kernel
theorem dX0_fewestBarring_24 : decode cX0_fewestBarring 24 = .ok (.invokevirtual 114, 3) := by decide +kernel
theorem dX0_fewestBarring_27 : decode cX0_fewestBarring 27 = .ok (.ifCond .eq 5, 3) := by decide +kernel
theorem dX0_fewestBarring_30 : decode cX0_fewestBarring 30 = .ok (.iload_n 2, 1) := by decide +kernel
theorem dX0_fewestBarring_31 : decode cX0_fewestBarring 31 = .ok (.istore_n 1, 1) := by decide +kernel
theorem dX0_fewestBarring_32 : decode cX0_fewestBarring 32 = .ok (.iinc 2 1, 3) := by decide +kernel
theorem dX0_fewestBarring_35 : decode cX0_fewestBarring 35 = .ok (.goto (-30), 3) := by decide +kernel
theorem dX0_fewestBarring_38 : decode cX0_fewestBarring 38 = .ok (.iload_n 1, 1) := by decide +kernel
theorem dX0_fewestBarring_39 : decode cX0_fewestBarring 39 = .ok (.ireturn, 1) := by decide +kernel
def GT_fewestBarring_5 (N : Nat) : Nat → Int32 → Int32 → St → Option (Int32)
  | 0, _, _, _ => none
  | n + 1, x1, x2, σ0 => if 31 ≤ x2 then some x1 else if (J_bc x1) ≤ (J_bc x2) then GT_fewestBarring_5 N n x1 (x2 + 1) σ0 else bnd (GT_barsAll N x2 σ0) (fun y3 => if y3 = 0 then GT_fewestBarring_5 N n x1 (x2 + 1) σ0 else GT_fewestBarring_5 N n x2 (x2 + 1) σ0)
theorem GT_fewestBarring_5_s (N : Nat) (n : Nat) (x1 : Int32) (x2 : Int32) (σ0 : St) : GT_fewestBarring_5 N (n + 1) x1 x2 σ0 = if 31 ≤ x2 then some x1 else if (J_bc x1) ≤ (J_bc x2) then GT_fewestBarring_5 N n x1 (x2 + 1) σ0 else bnd (GT_barsAll N x2 σ0) (fun y3 => if y3 = 0 then GT_fewestBarring_5 N n x1 (x2 + 1) σ0 else GT_fewestBarring_5 N n x2 (x2 + 1) σ0) := rfl
def GT_fewestBarring (N : Nat)  (σ0 : St) : Option (Int32) := GT_fewestBarring_5 N N 31 0 σ0
abbrev rm_GT_fewestBarring : Room := { frames := 1, cells := 0, slots := 0, locals := 22 }
set_option maxHeartbeats 4000000 in
set_option maxRecDepth 100000 in
theorem k_GT_fewestBarring (l : Launch) (ad : Nat → Nat) (cI cJ cZ : ClassId) {N : Nat}  {σ0 : St} {r : Int32} (hf : GT_fewestBarring N σ0 = some r) : CtI l yX0_fewestBarring (gws (.code yX0_fewestBarring cX0_fewestBarring 3 (some .int))) (rm_GT_fewestBarring) (ty3 cI cJ cZ) (xw ad cI cJ) [.ref (ad 6)] σ0 r σ0 := by
  refine CtI.of (by decide) (xw_ok ad cI cJ) (Nat.le_of_ble_eq_true rfl) ?_
  generalize hav : ([.ref (ad 6)] : List Value) = av
  intro p e s m below meth c D A hC ls hl hP hS
  obtain ⟨hx, hb, hr, hlocks, hml, hown, hts, hK, hN, hD, hA⟩ := id hC
  rw [← hav] at hl
  have hl : lv_has ls 3 [(0, .ref (ad 6))] := hl
  unfold GT_fewestBarring at hf
  have hw_5 : ∀ (n : Nat), ∀ (x1 : Int32) (x2 : Int32) (H : Heap) (locs : List Loc) (ls : Array Slot), va_P D vwCl ((xw ad cI cJ) σ0) H → va_S A s.heap H locs → lv_has ls 3 [(0, .ref (ad 6)), (1, .int x1), (2, .int x2)] → GT_fewestBarring_5 N n x1 x2 σ0 = some r → W p l e (rm_GT_fewestBarring) s m av.toArray below meth c H locs 0 0 (QI below av.toArray s D A (xw ad cI cJ) r σ0) (F0 m 5 ls []) := by
    intro n
    induction n with
    | zero =>
      intro x1 x2 H locs ls hP hS hl hf
      cases hf
    | succ n ih =>
      intro x1 x2 H locs ls hP hS hl hf
      rw [GT_fewestBarring_5_s] at hf
      refine lv_iload_n hx hb dX0_fewestBarring_5 rfl (lv_at hl 2 rfl) ?_
      refine lv_bipush (v := 31) hx hb dX0_fewestBarring_6 (by decide) ?_
      refine lv_icmp_ge (tgt := 38) hx hb dX0_fewestBarring_8 (by decide) (fun c1 => ?_) (fun c1 => ?_)
      · rw [if_pos c1] at hf
        refine lv_iload_n hx hb dX0_fewestBarring_38 rfl (lv_at hl 1 rfl) ?_
        have h1 := Option.some.inj hf
        exact retI hx hb hr hlocks hP hS h1 rfl dX0_fewestBarring_39
      rw [if_neg c1] at hf
      refine lv_iload_n hx hb dX0_fewestBarring_11 rfl (lv_at hl 2 rfl) ?_
      refine cSi (As := [.int x2]) (rest := []) hC (k_J_bc l (xw ad cI cJ) (xw_ok ad cI cJ) (ty3 cI cJ cZ) _ rfl) yy_J6_bitCount_0f7a4 tw_628 rfl rfl ⟨by decide, by decide⟩ hP hS rfl hl.1 rfl (Nat.le_of_ble_eq_true rfl) dX0_fewestBarring_12 (fun H locs hP hS => ?_)
      refine lv_iload_n hx hb dX0_fewestBarring_15 rfl (lv_at hl 1 rfl) ?_
      refine cSi (As := [.int x1]) (rest := [.int (J_bc x2)]) hC (k_J_bc l (xw ad cI cJ) (xw_ok ad cI cJ) (ty3 cI cJ cZ) _ rfl) yy_J6_bitCount_0f7a4 tw_628 rfl rfl ⟨by decide, by decide⟩ hP hS rfl hl.1 rfl (Nat.le_of_ble_eq_true rfl) dX0_fewestBarring_16 (fun H locs hP hS => ?_)
      refine lv_icmp_ge (tgt := 32) hx hb dX0_fewestBarring_19 (by decide) (fun c2 => ?_) (fun c2 => ?_)
      · rw [if_pos c2] at hf
        refine lv_iinc (v := (x2 + 1)) (lv' := [(2, .int (x2 + 1)), (0, .ref (ad 6)), (1, .int x1)]) hx hb dX0_fewestBarring_32 hl (k := 2) rfl rfl (by decide) rfl (fun ls hl => ?_)
        refine lv_goto (tgt := 5) hx hb dX0_fewestBarring_35 (by decide) ?_
        exact ih x1 (x2 + 1) H locs ls hP hS (lv_sub hl [1, 2, 0] rfl) hf
      rw [if_neg c2] at hf
      refine lv_aload_n hx hb dX0_fewestBarring_22 rfl (lv_at hl 0 rfl) ?_
      refine lv_iload_n hx hb dX0_fewestBarring_23 rfl (lv_at hl 2 rfl) ?_
      obtain ⟨y3, hcy3, hf⟩ := bnd_some hf
      refine cVi (As := [.int x2]) (rest := []) hC (k_GT_barsAll l ad cI cJ cZ hcy3) yy_X0_barsAll tw_629 rfl rfl ⟨by decide, by decide⟩ hP hS (q0 := 6) (ci := 0) rfl rfl (xwa_6 ..) rfl hl.1 rfl (Nat.le_of_ble_eq_true rfl) dX0_fewestBarring_24 (fun H locs hP hS => ?_)
      refine lv_if_eq (tgt := 32) hx hb dX0_fewestBarring_27 (by decide) (fun c4 => ?_) (fun c4 => ?_)
      · rw [if_pos c4] at hf
        refine lv_iinc (v := (x2 + 1)) (lv' := [(2, .int (x2 + 1)), (0, .ref (ad 6)), (1, .int x1)]) hx hb dX0_fewestBarring_32 hl (k := 2) rfl rfl (by decide) rfl (fun ls hl => ?_)
        refine lv_goto (tgt := 5) hx hb dX0_fewestBarring_35 (by decide) ?_
        exact ih x1 (x2 + 1) H locs ls hP hS (lv_sub hl [1, 2, 0] rfl) hf
      rw [if_neg c4] at hf
      refine lv_iload_n hx hb dX0_fewestBarring_30 rfl (lv_at hl 2 rfl) ?_
      refine lv_istore_n (lv' := [(1, .int x2), (0, .ref (ad 6)), (2, .int x2)]) hx hb dX0_fewestBarring_31 rfl hl (by decide) rfl (fun ls hl => ?_)
      refine lv_iinc (v := (x2 + 1)) (lv' := [(2, .int (x2 + 1)), (1, .int x2), (0, .ref (ad 6))]) hx hb dX0_fewestBarring_32 hl (k := 2) rfl rfl (by decide) rfl (fun ls hl => ?_)
      refine lv_goto (tgt := 5) hx hb dX0_fewestBarring_35 (by decide) ?_
      exact ih x2 (x2 + 1) H locs ls hP hS (lv_sub hl [2, 1, 0] rfl) hf
  obtain ⟨H, hH⟩ : ∃ z, z = s.heap := ⟨_, rfl⟩
  obtain ⟨locs, hlocs⟩ : ∃ z : List Loc, z = [] := ⟨_, rfl⟩
  rw [← hH] at hP
  have hS : va_S A s.heap H locs := by rw [hH, hlocs]; exact va_S.rf
  suffices hgoal : W p l e _ s m _ below meth c H locs 0 0 _ _ by rw [hH, hlocs] at hgoal; exact hgoal
  refine lv_bipush (v := 31) hx hb dX0_fewestBarring_0 (by decide) ?_
  refine lv_istore_n (lv' := [(1, .int 31), (0, .ref (ad 6))]) hx hb dX0_fewestBarring_2 rfl hl (by decide) rfl (fun ls hl => ?_)
  refine lv_iconst (v := 0) hx hb dX0_fewestBarring_3 (by decide) ?_
  refine lv_istore_n (lv' := [(2, .int 0), (1, .int 31), (0, .ref (ad 6))]) hx hb dX0_fewestBarring_4 rfl hl (by decide) rfl (fun ls hl => ?_)
  exact hw_5 N 31 0 H locs ls hP hS (lv_sub hl [2, 1, 0] rfl) hf
theorem dX0_placeOnFront_0 : decode cX0_placeOnFront 0 = .ok (.iconst (-1), 1) := by decide +kernel
theorem dX0_placeOnFront_1 : decode cX0_placeOnFront 1 = .ok (.istore_n 2, 1) := by decide +kernel
theorem dX0_placeOnFront_2 : decode cX0_placeOnFront 2 = .ok (.iconst (-1), 1) := by decide +kernel
theorem dX0_placeOnFront_3 : decode cX0_placeOnFront 3 = .ok (.istore_n 3, 1) := by decide +kernel
theorem dX0_placeOnFront_4 : decode cX0_placeOnFront 4 = .ok (.iconst 0, 1) := by decide +kernel
theorem dX0_placeOnFront_5 : decode cX0_placeOnFront 5 = .ok (.istore 4, 2) := by decide +kernel
theorem dX0_placeOnFront_7 : decode cX0_placeOnFront 7 = .ok (.iload 4, 2) := by decide +kernel
theorem dX0_placeOnFront_9 : decode cX0_placeOnFront 9 = .ok (.aload_n 0, 1) := by decide +kernel
theorem dX0_placeOnFront_10 : decode cX0_placeOnFront 10 = .ok (.getfield 40, 3) := by decide +kernel
theorem dX0_placeOnFront_13 : decode cX0_placeOnFront 13 = .ok (.if_icmp .ge 87, 3) := by decide +kernel
theorem dX0_placeOnFront_16 : decode cX0_placeOnFront 16 = .ok (.aload_n 0, 1) := by decide +kernel
theorem dX0_placeOnFront_17 : decode cX0_placeOnFront 17 = .ok (.iload 4, 2) := by decide +kernel
theorem dX0_placeOnFront_19 : decode cX0_placeOnFront 19 = .ok (.invokevirtual 106, 3) := by decide +kernel
theorem dX0_placeOnFront_22 : decode cX0_placeOnFront 22 = .ok (.istore 5, 2) := by decide +kernel
theorem dX0_placeOnFront_24 : decode cX0_placeOnFront 24 = .ok (.iload_n 3, 1) := by decide +kernel
theorem dX0_placeOnFront_25 : decode cX0_placeOnFront 25 = .ok (.iconst (-1), 1) := by decide +kernel
theorem dX0_placeOnFront_26 : decode cX0_placeOnFront 26 = .ok (.if_icmp .eq 28, 3) := by decide +kernel
theorem dX0_placeOnFront_29 : decode cX0_placeOnFront 29 = .ok (.aload_n 0, 1) := by decide +kernel
theorem dX0_placeOnFront_30 : decode cX0_placeOnFront 30 = .ok (.getfield 32, 3) := by decide +kernel
theorem dX0_placeOnFront_33 : decode cX0_placeOnFront 33 = .ok (.getfield 78, 3) := by decide +kernel
theorem dX0_placeOnFront_36 : decode cX0_placeOnFront 36 = .ok (.iload 5, 2) := by decide +kernel
theorem dX0_placeOnFront_38 : decode cX0_placeOnFront 38 = .ok (.iaload, 1) := by decide +kernel
theorem dX0_placeOnFront_39 : decode cX0_placeOnFront 39 = .ok (.aload_n 0, 1) := by decide +kernel
theorem dX0_placeOnFront_40 : decode cX0_placeOnFront 40 = .ok (.getfield 32, 3) := by decide +kernel
theorem dX0_placeOnFront_43 : decode cX0_placeOnFront 43 = .ok (.getfield 78, 3) := by decide +kernel
theorem dX0_placeOnFront_46 : decode cX0_placeOnFront 46 = .ok (.iload_n 3, 1) := by decide +kernel
theorem dX0_placeOnFront_47 : decode cX0_placeOnFront 47 = .ok (.iaload, 1) := by decide +kernel
theorem dX0_placeOnFront_48 : decode cX0_placeOnFront 48 = .ok (.if_icmp .lt 6, 3) := by decide +kernel
theorem dX0_placeOnFront_51 : decode cX0_placeOnFront 51 = .ok (.goto 43, 3) := by decide +kernel
theorem dX0_placeOnFront_54 : decode cX0_placeOnFront 54 = .ok (.iload_n 3, 1) := by decide +kernel
theorem dX0_placeOnFront_55 : decode cX0_placeOnFront 55 = .ok (.iconst (-1), 1) := by decide +kernel
theorem dX0_placeOnFront_56 : decode cX0_placeOnFront 56 = .ok (.if_icmp .eq 25, 3) := by decide +kernel
theorem dX0_placeOnFront_59 : decode cX0_placeOnFront 59 = .ok (.aload_n 0, 1) := by decide +kernel
theorem dX0_placeOnFront_60 : decode cX0_placeOnFront 60 = .ok (.getfield 32, 3) := by decide +kernel
theorem dX0_placeOnFront_63 : decode cX0_placeOnFront 63 = .ok (.getfield 93, 3) := by decide +kernel
theorem dX0_placeOnFront_66 : decode cX0_placeOnFront 66 = .ok (.iload 5, 2) := by decide +kernel
theorem dX0_placeOnFront_68 : decode cX0_placeOnFront 68 = .ok (.iaload, 1) := by decide +kernel
theorem dX0_placeOnFront_69 : decode cX0_placeOnFront 69 = .ok (.aload_n 0, 1) := by decide +kernel
theorem dX0_placeOnFront_70 : decode cX0_placeOnFront 70 = .ok (.getfield 32, 3) := by decide +kernel
theorem dX0_placeOnFront_73 : decode cX0_placeOnFront 73 = .ok (.getfield 93, 3) := by decide +kernel
theorem dX0_placeOnFront_76 : decode cX0_placeOnFront 76 = .ok (.iload_n 3, 1) := by decide +kernel
theorem dX0_placeOnFront_77 : decode cX0_placeOnFront 77 = .ok (.iaload, 1) := by decide +kernel
theorem dX0_placeOnFront_78 : decode cX0_placeOnFront 78 = .ok (.if_icmp .le 13, 3) := by decide +kernel
theorem dX0_placeOnFront_81 : decode cX0_placeOnFront 81 = .ok (.iload_n 2, 1) := by decide +kernel
theorem dX0_placeOnFront_82 : decode cX0_placeOnFront 82 = .ok (.iload_n 1, 1) := by decide +kernel
theorem dX0_placeOnFront_83 : decode cX0_placeOnFront 83 = .ok (.if_icmp .ne 5, 3) := by decide +kernel
theorem dX0_placeOnFront_86 : decode cX0_placeOnFront 86 = .ok (.iload_n 3, 1) := by decide +kernel
theorem dX0_placeOnFront_87 : decode cX0_placeOnFront 87 = .ok (.ireturn, 1) := by decide +kernel
theorem dX0_placeOnFront_88 : decode cX0_placeOnFront 88 = .ok (.iinc 2 1, 3) := by decide +kernel
theorem dX0_placeOnFront_91 : decode cX0_placeOnFront 91 = .ok (.iload 5, 2) := by decide +kernel
theorem dX0_placeOnFront_93 : decode cX0_placeOnFront 93 = .ok (.istore_n 3, 1) := by decide +kernel
theorem dX0_placeOnFront_94 : decode cX0_placeOnFront 94 = .ok (.iinc 4 1, 3) := by decide +kernel
theorem dX0_placeOnFront_97 : decode cX0_placeOnFront 97 = .ok (.goto (-90), 3) := by decide +kernel
theorem dX0_placeOnFront_100 : decode cX0_placeOnFront 100 = .ok (.iload_n 2, 1) := by decide +kernel
theorem dX0_placeOnFront_101 : decode cX0_placeOnFront 101 = .ok (.iload_n 1, 1) := by decide +kernel
theorem dX0_placeOnFront_102 : decode cX0_placeOnFront 102 = .ok (.if_icmp .ne 7, 3) := by decide +kernel
theorem dX0_placeOnFront_105 : decode cX0_placeOnFront 105 = .ok (.iload_n 3, 1) := by decide +kernel
theorem dX0_placeOnFront_106 : decode cX0_placeOnFront 106 = .ok (.goto 4, 3) := by decide +kernel
theorem dX0_placeOnFront_109 : decode cX0_placeOnFront 109 = .ok (.iconst (-1), 1) := by decide +kernel
theorem dX0_placeOnFront_110 : decode cX0_placeOnFront 110 = .ok (.ireturn, 1) := by decide +kernel
def GT_placeOnFront_54 (N : Nat) (k_7 : Int32 → Int32 → Int32 → Int32 → St → Option (Int32 × St)) (x1 : Int32) (x2 : Int32) (x3 : Int32) (x4 : Int32) (x5 : Int32) (σ : St) : Option (Int32 × St) := if x3 = (-1) then if x2 = x1 then some (x3, σ) else k_7 x1 (x2 + 1) x5 (x4 + 1) σ else grd (inb x5 1280) (grd (inb x3 1280) (if (σ.2.1 7 (x5).toNatClampNeg) ≤ (σ.2.1 7 (x3).toNatClampNeg) then k_7 x1 x2 x5 (x4 + 1) σ else if x2 = x1 then some (x3, σ) else k_7 x1 (x2 + 1) x5 (x4 + 1) σ))
def GT_placeOnFront_7 (N : Nat) (k_100 : Int32 → Int32 → Int32 → St → Option (Int32 × St)) : Nat → Int32 → Int32 → Int32 → Int32 → St → Option (Int32 × St)
  | 0, _, _, _, _, _ => none
  | n + 1, x1, x2, x3, x4, σ => if (σ.1 18) ≤ x4 then k_100 x1 x2 x3 σ else bnd2 (GT_placeRanked N x4 σ) (fun y8 σ9 => if x3 = (-1) then GT_placeOnFront_54 N (GT_placeOnFront_7 N k_100 n) x1 x2 x3 x4 y8 σ9 else grd (inb y8 1280) (grd (inb x3 1280) (if (σ9.2.1 10 (y8).toNatClampNeg) < (σ9.2.1 10 (x3).toNatClampNeg) then GT_placeOnFront_54 N (GT_placeOnFront_7 N k_100 n) x1 x2 x3 x4 y8 σ9 else GT_placeOnFront_7 N k_100 n x1 x2 x3 (x4 + 1) σ9)))
theorem GT_placeOnFront_7_s (N : Nat) (k_100 : Int32 → Int32 → Int32 → St → Option (Int32 × St)) (n : Nat) (x1 : Int32) (x2 : Int32) (x3 : Int32) (x4 : Int32) (σ : St) : GT_placeOnFront_7 N k_100 (n + 1) x1 x2 x3 x4 σ = if (σ.1 18) ≤ x4 then k_100 x1 x2 x3 σ else bnd2 (GT_placeRanked N x4 σ) (fun y8 σ9 => if x3 = (-1) then GT_placeOnFront_54 N (GT_placeOnFront_7 N k_100 n) x1 x2 x3 x4 y8 σ9 else grd (inb y8 1280) (grd (inb x3 1280) (if (σ9.2.1 10 (y8).toNatClampNeg) < (σ9.2.1 10 (x3).toNatClampNeg) then GT_placeOnFront_54 N (GT_placeOnFront_7 N k_100 n) x1 x2 x3 x4 y8 σ9 else GT_placeOnFront_7 N k_100 n x1 x2 x3 (x4 + 1) σ9))) := rfl
def GT_placeOnFront_100 (N : Nat) (x1 : Int32) (x2 : Int32) (x3 : Int32) (σ : St) : Option (Int32 × St) := if x2 = x1 then some (x3, σ) else some ((-1), σ)
def GT_placeOnFront (N : Nat) (x1 : Int32) (σ0 : St) : Option (Int32 × St) := GT_placeOnFront_7 N (GT_placeOnFront_100 N) N x1 (-1) (-1) 0 σ0
abbrev rm_GT_placeOnFront : Room := { frames := 4, cells := 0, slots := 0, locals := 91 }
set_option maxHeartbeats 4000000 in
set_option maxRecDepth 100000 in
theorem k_GT_placeOnFront (l : Launch) (ad : Nat → Nat) (cI cJ cZ : ClassId) {N : Nat} {x1 : Int32} {σ0 : St} {r : Int32} {τ : St} (hf : GT_placeOnFront N x1 σ0 = some (r, τ)) : CtI l yX0_placeOnFront (gws (.code yX0_placeOnFront cX0_placeOnFront 6 (some .int))) (rm_GT_placeOnFront) (ty3 cI cJ cZ) (xw ad cI cJ) [.ref (ad 6), .int x1] σ0 r τ := by
  refine CtI.of (by decide) (xw_ok ad cI cJ) (Nat.le_of_ble_eq_true rfl) ?_
  generalize hav : ([.ref (ad 6), .int x1] : List Value) = av
  intro p e s m below meth c D A hC ls hl hP hS
  obtain ⟨hx, hb, hr, hlocks, hml, hown, hts, hK, hN, hD, hA⟩ := id hC
  rw [← hav] at hl
  have hl : lv_has ls 6 [(0, .ref (ad 6)), (1, .int x1)] := hl
  unfold GT_placeOnFront at hf
  have hw_54 : ∀ (k_7 : Int32 → Int32 → Int32 → Int32 → St → Option (Int32 × St)) (hk_7 : ∀ (x1 : Int32) (x2 : Int32) (x3 : Int32) (x4 : Int32) (σ : St) (H : Heap) (locs : List Loc) (ls : Array Slot), va_P D vwCl ((xw ad cI cJ) σ) H → va_S A s.heap H locs → lv_has ls 6 [(0, .ref (ad 6)), (1, .int x1), (2, .int x2), (3, .int x3), (4, .int x4)] → k_7 x1 x2 x3 x4 σ = some (r, τ) → W p l e (rm_GT_placeOnFront) s m av.toArray below meth c H locs 0 0 (QI below av.toArray s D A (xw ad cI cJ) r τ) (F0 m 7 ls [])), ∀ (x1 : Int32) (x2 : Int32) (x3 : Int32) (x4 : Int32) (x5 : Int32) (σ : St) (H : Heap) (locs : List Loc) (ls : Array Slot), va_P D vwCl ((xw ad cI cJ) σ) H → va_S A s.heap H locs → lv_has ls 6 [(0, .ref (ad 6)), (1, .int x1), (2, .int x2), (3, .int x3), (4, .int x4), (5, .int x5)] → GT_placeOnFront_54 N k_7 x1 x2 x3 x4 x5 σ = some (r, τ) → W p l e (rm_GT_placeOnFront) s m av.toArray below meth c H locs 0 0 (QI below av.toArray s D A (xw ad cI cJ) r τ) (F0 m 54 ls []) := by
    intro k_7 hk_7 x1 x2 x3 x4 x5 σ H locs ls hP hS hl hf
    unfold GT_placeOnFront_54 at hf
    refine lv_iload_n hx hb dX0_placeOnFront_54 rfl (lv_at hl 3 rfl) ?_
    refine lv_iconst (v := (-1)) hx hb dX0_placeOnFront_55 (by decide) ?_
    refine lv_icmp_eq (tgt := 81) hx hb dX0_placeOnFront_56 (by decide) (fun c1 => ?_) (fun c1 => ?_)
    · rw [if_pos c1] at hf
      refine lv_iload_n hx hb dX0_placeOnFront_81 rfl (lv_at hl 2 rfl) ?_
      refine lv_iload_n hx hb dX0_placeOnFront_82 rfl (lv_at hl 1 rfl) ?_
      refine lv_icmp_ne (tgt := 88) hx hb dX0_placeOnFront_83 (by decide) (fun c2 => ?_) (fun c2 => ?_)
      · rw [if_neg c2] at hf
        refine lv_iinc (v := (x2 + 1)) (lv' := [(2, .int (x2 + 1)), (0, .ref (ad 6)), (1, .int x1), (3, .int x3), (4, .int x4), (5, .int x5)]) hx hb dX0_placeOnFront_88 hl (k := 2) rfl rfl (by decide) rfl (fun ls hl => ?_)
        refine lv_iload hx hb dX0_placeOnFront_91 (lv_at hl 5 rfl) ?_
        refine lv_istore_n (lv' := [(3, .int x5), (2, .int (x2 + 1)), (0, .ref (ad 6)), (1, .int x1), (4, .int x4), (5, .int x5)]) hx hb dX0_placeOnFront_93 rfl hl (by decide) rfl (fun ls hl => ?_)
        refine lv_iinc (v := (x4 + 1)) (lv' := [(4, .int (x4 + 1)), (3, .int x5), (2, .int (x2 + 1)), (0, .ref (ad 6)), (1, .int x1), (5, .int x5)]) hx hb dX0_placeOnFront_94 hl (k := 4) rfl rfl (by decide) rfl (fun ls hl => ?_)
        refine lv_goto (tgt := 7) hx hb dX0_placeOnFront_97 (by decide) ?_
        exact hk_7 x1 (x2 + 1) x5 (x4 + 1) σ H locs ls hP hS (lv_sub hl [3, 4, 2, 1, 0] rfl) hf
      rw [if_pos c2] at hf
      refine lv_iload_n hx hb dX0_placeOnFront_86 rfl (lv_at hl 3 rfl) ?_
      obtain ⟨h1, h2⟩ := ret2 hf
      exact retI hx hb hr hlocks hP hS h1 h2 dX0_placeOnFront_87
    rw [if_neg c1] at hf
    refine lv_aload_n hx hb dX0_placeOnFront_59 rfl (lv_at hl 0 rfl) ?_
    refine xg_6_6 hC hP tw_264 dX0_placeOnFront_60 ?_
    refine xg_4_1 hC hP tw_204 dX0_placeOnFront_63 ?_
    refine lv_iload hx hb dX0_placeOnFront_66 (lv_at hl 5 rfl) ?_
    obtain ⟨g3, hf⟩ := grd_some hf
    refine xl_16 hC hP g3 dX0_placeOnFront_68 ?_
    refine lv_aload_n hx hb dX0_placeOnFront_69 rfl (lv_at hl 0 rfl) ?_
    refine xg_6_6 hC hP tw_264 dX0_placeOnFront_70 ?_
    refine xg_4_1 hC hP tw_204 dX0_placeOnFront_73 ?_
    refine lv_iload_n hx hb dX0_placeOnFront_76 rfl (lv_at hl 3 rfl) ?_
    obtain ⟨g4, hf⟩ := grd_some hf
    refine xl_16 hC hP g4 dX0_placeOnFront_77 ?_
    refine lv_icmp_le (tgt := 91) hx hb dX0_placeOnFront_78 (by decide) (fun c5 => ?_) (fun c5 => ?_)
    · rw [if_pos c5] at hf
      refine lv_iload hx hb dX0_placeOnFront_91 (lv_at hl 5 rfl) ?_
      refine lv_istore_n (lv' := [(3, .int x5), (0, .ref (ad 6)), (1, .int x1), (2, .int x2), (4, .int x4), (5, .int x5)]) hx hb dX0_placeOnFront_93 rfl hl (by decide) rfl (fun ls hl => ?_)
      refine lv_iinc (v := (x4 + 1)) (lv' := [(4, .int (x4 + 1)), (3, .int x5), (0, .ref (ad 6)), (1, .int x1), (2, .int x2), (5, .int x5)]) hx hb dX0_placeOnFront_94 hl (k := 4) rfl rfl (by decide) rfl (fun ls hl => ?_)
      refine lv_goto (tgt := 7) hx hb dX0_placeOnFront_97 (by decide) ?_
      exact hk_7 x1 x2 x5 (x4 + 1) σ H locs ls hP hS (lv_sub hl [2, 3, 4, 1, 0] rfl) hf
    rw [if_neg c5] at hf
    refine lv_iload_n hx hb dX0_placeOnFront_81 rfl (lv_at hl 2 rfl) ?_
    refine lv_iload_n hx hb dX0_placeOnFront_82 rfl (lv_at hl 1 rfl) ?_
    refine lv_icmp_ne (tgt := 88) hx hb dX0_placeOnFront_83 (by decide) (fun c6 => ?_) (fun c6 => ?_)
    · rw [if_neg c6] at hf
      refine lv_iinc (v := (x2 + 1)) (lv' := [(2, .int (x2 + 1)), (0, .ref (ad 6)), (1, .int x1), (3, .int x3), (4, .int x4), (5, .int x5)]) hx hb dX0_placeOnFront_88 hl (k := 2) rfl rfl (by decide) rfl (fun ls hl => ?_)
      refine lv_iload hx hb dX0_placeOnFront_91 (lv_at hl 5 rfl) ?_
      refine lv_istore_n (lv' := [(3, .int x5), (2, .int (x2 + 1)), (0, .ref (ad 6)), (1, .int x1), (4, .int x4), (5, .int x5)]) hx hb dX0_placeOnFront_93 rfl hl (by decide) rfl (fun ls hl => ?_)
      refine lv_iinc (v := (x4 + 1)) (lv' := [(4, .int (x4 + 1)), (3, .int x5), (2, .int (x2 + 1)), (0, .ref (ad 6)), (1, .int x1), (5, .int x5)]) hx hb dX0_placeOnFront_94 hl (k := 4) rfl rfl (by decide) rfl (fun ls hl => ?_)
      refine lv_goto (tgt := 7) hx hb dX0_placeOnFront_97 (by decide) ?_
      exact hk_7 x1 (x2 + 1) x5 (x4 + 1) σ H locs ls hP hS (lv_sub hl [3, 4, 2, 1, 0] rfl) hf
    rw [if_pos c6] at hf
    refine lv_iload_n hx hb dX0_placeOnFront_86 rfl (lv_at hl 3 rfl) ?_
    obtain ⟨h1, h2⟩ := ret2 hf
    exact retI hx hb hr hlocks hP hS h1 h2 dX0_placeOnFront_87
  have hw_7 : ∀ (k_100 : Int32 → Int32 → Int32 → St → Option (Int32 × St)) (hk_100 : ∀ (x1 : Int32) (x2 : Int32) (x3 : Int32) (σ : St) (H : Heap) (locs : List Loc) (ls : Array Slot), va_P D vwCl ((xw ad cI cJ) σ) H → va_S A s.heap H locs → lv_has ls 6 [(1, .int x1), (2, .int x2), (3, .int x3)] → k_100 x1 x2 x3 σ = some (r, τ) → W p l e (rm_GT_placeOnFront) s m av.toArray below meth c H locs 0 0 (QI below av.toArray s D A (xw ad cI cJ) r τ) (F0 m 100 ls [])), ∀ (n : Nat), ∀ (x1 : Int32) (x2 : Int32) (x3 : Int32) (x4 : Int32) (σ : St) (H : Heap) (locs : List Loc) (ls : Array Slot), va_P D vwCl ((xw ad cI cJ) σ) H → va_S A s.heap H locs → lv_has ls 6 [(0, .ref (ad 6)), (1, .int x1), (2, .int x2), (3, .int x3), (4, .int x4)] → GT_placeOnFront_7 N k_100 n x1 x2 x3 x4 σ = some (r, τ) → W p l e (rm_GT_placeOnFront) s m av.toArray below meth c H locs 0 0 (QI below av.toArray s D A (xw ad cI cJ) r τ) (F0 m 7 ls []) := by
    intro k_100 hk_100
    intro n
    induction n with
    | zero =>
      intro x1 x2 x3 x4 σ H locs ls hP hS hl hf
      cases hf
    | succ n ih =>
      intro x1 x2 x3 x4 σ H locs ls hP hS hl hf
      rw [GT_placeOnFront_7_s] at hf
      refine lv_iload hx hb dX0_placeOnFront_7 (lv_at hl 4 rfl) ?_
      refine lv_aload_n hx hb dX0_placeOnFront_9 rfl (lv_at hl 0 rfl) ?_
      refine xg_6_1 hC hP tw_255 dX0_placeOnFront_10 ?_
      refine lv_icmp_ge (tgt := 100) hx hb dX0_placeOnFront_13 (by decide) (fun c7 => ?_) (fun c7 => ?_)
      · rw [if_pos c7] at hf
        exact hk_100 x1 x2 x3 σ H locs ls hP hS (lv_sub hl [1, 2, 3] rfl) hf
      rw [if_neg c7] at hf
      refine lv_aload_n hx hb dX0_placeOnFront_16 rfl (lv_at hl 0 rfl) ?_
      refine lv_iload hx hb dX0_placeOnFront_17 (lv_at hl 4 rfl) ?_
      obtain ⟨y8, σ9, hcy8, hf⟩ := bnd2_some hf
      refine cVi (As := [.int x4]) (rest := []) hC (k_GT_placeRanked l ad cI cJ cZ hcy8) yy_X0_placeRanked tw_619 rfl rfl ⟨by decide, by decide⟩ hP hS (q0 := 6) (ci := 0) rfl rfl (xwa_6 ..) rfl hl.1 rfl (Nat.le_of_ble_eq_true rfl) dX0_placeOnFront_19 (fun H locs hP hS => ?_)
      refine lv_istore (lv' := [(5, .int y8), (0, .ref (ad 6)), (1, .int x1), (2, .int x2), (3, .int x3), (4, .int x4)]) hx hb dX0_placeOnFront_22 hl (by decide) rfl (fun ls hl => ?_)
      refine lv_iload_n hx hb dX0_placeOnFront_24 rfl (lv_at hl 4 rfl) ?_
      refine lv_iconst (v := (-1)) hx hb dX0_placeOnFront_25 (by decide) ?_
      refine lv_icmp_eq (tgt := 54) hx hb dX0_placeOnFront_26 (by decide) (fun c10 => ?_) (fun c10 => ?_)
      · rw [if_pos c10] at hf
        exact hw_54 (GT_placeOnFront_7 N k_100 n) ih x1 x2 x3 x4 y8 σ9 H locs ls hP hS (lv_sub hl [1, 2, 3, 4, 5, 0] rfl) hf
      rw [if_neg c10] at hf
      refine lv_aload_n hx hb dX0_placeOnFront_29 rfl (lv_at hl 1 rfl) ?_
      refine xg_6_6 hC hP tw_264 dX0_placeOnFront_30 ?_
      refine xg_4_4 hC hP tw_211 dX0_placeOnFront_33 ?_
      refine lv_iload hx hb dX0_placeOnFront_36 (lv_at hl 0 rfl) ?_
      obtain ⟨g11, hf⟩ := grd_some hf
      refine xl_19 hC hP g11 dX0_placeOnFront_38 ?_
      refine lv_aload_n hx hb dX0_placeOnFront_39 rfl (lv_at hl 1 rfl) ?_
      refine xg_6_6 hC hP tw_264 dX0_placeOnFront_40 ?_
      refine xg_4_4 hC hP tw_211 dX0_placeOnFront_43 ?_
      refine lv_iload_n hx hb dX0_placeOnFront_46 rfl (lv_at hl 4 rfl) ?_
      obtain ⟨g12, hf⟩ := grd_some hf
      refine xl_19 hC hP g12 dX0_placeOnFront_47 ?_
      refine lv_icmp_lt (tgt := 54) hx hb dX0_placeOnFront_48 (by decide) (fun c13 => ?_) (fun c13 => ?_)
      · rw [if_pos c13] at hf
        exact hw_54 (GT_placeOnFront_7 N k_100 n) ih x1 x2 x3 x4 y8 σ9 H locs ls hP hS (lv_sub hl [1, 2, 3, 4, 5, 0] rfl) hf
      rw [if_neg c13] at hf
      refine lv_goto (tgt := 94) hx hb dX0_placeOnFront_51 (by decide) ?_
      refine lv_iinc (v := (x4 + 1)) (lv' := [(4, .int (x4 + 1)), (5, .int y8), (0, .ref (ad 6)), (1, .int x1), (2, .int x2), (3, .int x3)]) hx hb dX0_placeOnFront_94 hl (k := 5) rfl rfl (by decide) rfl (fun ls hl => ?_)
      refine lv_goto (tgt := 7) hx hb dX0_placeOnFront_97 (by decide) ?_
      exact ih x1 x2 x3 (x4 + 1) σ9 H locs ls hP hS (lv_sub hl [2, 3, 4, 5, 0] rfl) hf
  have hw_100 : ∀ (x1 : Int32) (x2 : Int32) (x3 : Int32) (σ : St) (H : Heap) (locs : List Loc) (ls : Array Slot), va_P D vwCl ((xw ad cI cJ) σ) H → va_S A s.heap H locs → lv_has ls 6 [(1, .int x1), (2, .int x2), (3, .int x3)] → GT_placeOnFront_100 N x1 x2 x3 σ = some (r, τ) → W p l e (rm_GT_placeOnFront) s m av.toArray below meth c H locs 0 0 (QI below av.toArray s D A (xw ad cI cJ) r τ) (F0 m 100 ls []) := by
    intro x1 x2 x3 σ H locs ls hP hS hl hf
    unfold GT_placeOnFront_100 at hf
    refine lv_iload_n hx hb dX0_placeOnFront_100 rfl (lv_at hl 1 rfl) ?_
    refine lv_iload_n hx hb dX0_placeOnFront_101 rfl (lv_at hl 0 rfl) ?_
    refine lv_icmp_ne (tgt := 109) hx hb dX0_placeOnFront_102 (by decide) (fun c14 => ?_) (fun c14 => ?_)
    · rw [if_neg c14] at hf
      refine lv_iconst (v := (-1)) hx hb dX0_placeOnFront_109 (by decide) ?_
      obtain ⟨h1, h2⟩ := ret2 hf
      exact retI hx hb hr hlocks hP hS h1 h2 dX0_placeOnFront_110
    rw [if_pos c14] at hf
    refine lv_iload_n hx hb dX0_placeOnFront_105 rfl (lv_at hl 2 rfl) ?_
    refine lv_goto (tgt := 110) hx hb dX0_placeOnFront_106 (by decide) ?_
    obtain ⟨h1, h2⟩ := ret2 hf
    exact retI hx hb hr hlocks hP hS h1 h2 dX0_placeOnFront_110
  obtain ⟨H, hH⟩ : ∃ z, z = s.heap := ⟨_, rfl⟩
  obtain ⟨locs, hlocs⟩ : ∃ z : List Loc, z = [] := ⟨_, rfl⟩
  rw [← hH] at hP
  have hS : va_S A s.heap H locs := by rw [hH, hlocs]; exact va_S.rf
  suffices hgoal : W p l e _ s m _ below meth c H locs 0 0 _ _ by rw [hH, hlocs] at hgoal; exact hgoal
  refine lv_iconst (v := (-1)) hx hb dX0_placeOnFront_0 (by decide) ?_
  refine lv_istore_n (lv' := [(2, .int (-1)), (0, .ref (ad 6)), (1, .int x1)]) hx hb dX0_placeOnFront_1 rfl hl (by decide) rfl (fun ls hl => ?_)
  refine lv_iconst (v := (-1)) hx hb dX0_placeOnFront_2 (by decide) ?_
  refine lv_istore_n (lv' := [(3, .int (-1)), (2, .int (-1)), (0, .ref (ad 6)), (1, .int x1)]) hx hb dX0_placeOnFront_3 rfl hl (by decide) rfl (fun ls hl => ?_)
  refine lv_iconst (v := 0) hx hb dX0_placeOnFront_4 (by decide) ?_
  refine lv_istore (lv' := [(4, .int 0), (3, .int (-1)), (2, .int (-1)), (0, .ref (ad 6)), (1, .int x1)]) hx hb dX0_placeOnFront_5 hl (by decide) rfl (fun ls hl => ?_)
  exact hw_7 (GT_placeOnFront_100 N) hw_100 N x1 (-1) (-1) 0 σ0 H locs ls hP hS (lv_sub hl [3, 4, 2, 1, 0] rfl) hf
