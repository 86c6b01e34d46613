/-! walks laid by program (gen.py, walk.py): 11.face -/
theorem dX7_startAnew_0 : decode cX7_startAnew 0 = .ok (.aload_n 0, 1) := by decide +kernel
theorem dX7_startAnew_1 : decode cX7_startAnew 1 = .ok (.getfield 12, 3) := by decide +kernel
theorem dX7_startAnew_4 : decode cX7_startAnew 4 = .ok (.iload_n 1, 1) := by decide +kernel
theorem dX7_startAnew_5 : decode cX7_startAnew 5 = .ok (.invokevirtual 217, 3) := by decide +kernel
theorem dX7_startAnew_8 : decode cX7_startAnew 8 = .ok (.aload_n 0, 1) := by decide +kernel
theorem dX7_startAnew_9 : decode cX7_startAnew 9 = .ok (.getfield 19, 3) := by decide +kernel
theorem dX7_startAnew_12 : decode cX7_startAnew 12 = .ok (.invokevirtual 220, 3) := by decide +kernel
theorem dX7_startAnew_15 : decode cX7_startAnew 15 = .ok (.aload_n 0, 1) := by decide +kernel
theorem dX7_startAnew_16 : decode cX7_startAnew 16 = .ok (.getfield 35, 3) := by decide +kernel
theorem dX7_startAnew_19 : decode cX7_startAnew 19 = .ok (.invokevirtual 222, 3) := by decide +kernel
theorem dX7_startAnew_22 : decode cX7_startAnew 22 = .ok (.aload_n 0, 1) := by decide +kernel
theorem dX7_startAnew_23 : decode cX7_startAnew 23 = .ok (.getfield 44, 3) := by decide +kernel
theorem dX7_startAnew_26 : decode cX7_startAnew 26 = .ok (.invokevirtual 73, 3) := by decide +kernel
theorem dX7_startAnew_29 : decode cX7_startAnew 29 = .ok (.return_, 1) := by decide +kernel
def LT_startAnew (x1 : Int32) (σ0 : St) : St := lt (Net_clear x1 σ0) (fun σ1 => lt (Lim_clear σ1) (fun σ2 => lt (TL_clear σ2) (fun σ3 => lt (GT_forget σ3) (fun σ4 => σ4))))
abbrev rm_LT_startAnew : Room := { frames := 3, cells := 0, slots := 0, locals := 64 }
set_option maxHeartbeats 4000000 in
set_option maxRecDepth 100000 in
theorem k_LT_startAnew (l : Launch) (ad : Nat → Nat) (cI cJ cZ : ClassId) {x1 : Int32} {σ0 : St} {τ : St} (hf : LT_startAnew x1 σ0 = τ) : CtV l yX7_startAnew (gws (.code yX7_startAnew cX7_startAnew 2 none)) (rm_LT_startAnew) (ty3 cI cJ cZ) (xw ad cI cJ) [.ref (ad 0), .int x1] σ0 τ := by
  refine CtV.of (by decide) (xw_ok ad cI cJ) (Nat.le_of_ble_eq_true rfl) ?_
  generalize hav : ([.ref (ad 0), .int x1] : List Value) = av
  intro p e s m below meth c D A hC ls hl hP hS
  obtain ⟨hx, hb, hr, hlocks, hml, hown, hts, hK, hN, hD, hA⟩ := id hC
  rw [← hav] at hl
  have hl : lv_has ls 2 [(0, .ref (ad 0)), (1, .int x1)] := hl
  unfold LT_startAnew at hf
  obtain ⟨H, hH⟩ : ∃ z, z = s.heap := ⟨_, rfl⟩
  obtain ⟨locs, hlocs⟩ : ∃ z : List Loc, z = [] := ⟨_, rfl⟩
  rw [← hH] at hP
  have hS : va_S A s.heap H locs := by rw [hH, hlocs]; exact va_S.rf
  suffices hgoal : W p l e _ s m _ below meth c H locs 0 0 _ _ by rw [hH, hlocs] at hgoal; exact hgoal
  refine lv_aload_n hx hb dX7_startAnew_0 rfl (lv_at hl 0 rfl) ?_
  refine xg_0_0 hC hP tw_359 dX7_startAnew_1 ?_
  refine lv_iload_n hx hb dX7_startAnew_4 rfl (lv_at hl 1 rfl) ?_
  obtain ⟨σ1, eσ1, hf⟩ := lt_e hf
  refine cVv (As := [.int x1]) (rest := []) hC (k_Net_clear l ad cI cJ cZ eσ1.symm) yy_X2_clear tw_332 rfl rfl ⟨by decide, by decide⟩ hP hS (q0 := 1) (ci := 2) rfl rfl (xwa_1 ..) rfl hl.1 rfl (Nat.le_of_ble_eq_true rfl) dX7_startAnew_5 (fun H locs hP hS => ?_)
  refine lv_aload_n hx hb dX7_startAnew_8 rfl (lv_at hl 0 rfl) ?_
  refine xg_0_1 hC hP tw_360 dX7_startAnew_9 ?_
  obtain ⟨σ2, eσ2, hf⟩ := lt_e hf
  refine cVv (As := []) (rest := []) hC (k_Lim_clear l ad cI cJ cZ eσ2.symm) yy_X1_clear tw_339 rfl rfl ⟨by decide, by decide⟩ hP hS (q0 := 2) (ci := 1) rfl rfl (xwa_2 ..) rfl hl.1 rfl (Nat.le_of_ble_eq_true rfl) dX7_startAnew_12 (fun H locs hP hS => ?_)
  refine lv_aload_n hx hb dX7_startAnew_15 rfl (lv_at hl 0 rfl) ?_
  refine xg_0_3 hC hP tw_362 dX7_startAnew_16 ?_
  obtain ⟨σ3, eσ3, hf⟩ := lt_e hf
  refine cVv (As := []) (rest := []) hC (k_TL_clear l ad cI cJ cZ eσ3.symm) yy_X6_clear tw_344 rfl rfl ⟨by decide, by decide⟩ hP hS (q0 := 4) (ci := 6) rfl rfl (xwa_4 ..) rfl hl.1 rfl (Nat.le_of_ble_eq_true rfl) dX7_startAnew_19 (fun H locs hP hS => ?_)
  refine lv_aload_n hx hb dX7_startAnew_22 rfl (lv_at hl 0 rfl) ?_
  refine xg_0_4 hC hP tw_363 dX7_startAnew_23 ?_
  obtain ⟨σ4, eσ4, hf⟩ := lt_e hf
  refine cVv (As := []) (rest := []) hC (k_GT_forget l ad cI cJ cZ eσ4.symm) yy_X0_forget tw_355 rfl rfl ⟨by decide, by decide⟩ hP hS (q0 := 6) (ci := 0) rfl rfl (xwa_6 ..) rfl hl.1 rfl (Nat.le_of_ble_eq_true rfl) dX7_startAnew_26 (fun H locs hP hS => ?_)
  have h2 := hf
  exact retV hx hb hr hlocks hP hS h2 dX7_startAnew_29
theorem dX7_forgetMeasures_0 : decode cX7_forgetMeasures 0 = .ok (.aload_n 0, 1) := by decide +kernel
theorem dX7_forgetMeasures_1 : decode cX7_forgetMeasures 1 = .ok (.getfield 35, 3) := by decide +kernel
theorem dX7_forgetMeasures_4 : decode cX7_forgetMeasures 4 = .ok (.invokevirtual 223, 3) := by decide +kernel
theorem dX7_forgetMeasures_7 : decode cX7_forgetMeasures 7 = .ok (.aload_n 0, 1) := by decide +kernel
theorem dX7_forgetMeasures_8 : decode cX7_forgetMeasures 8 = .ok (.getfield 44, 3) := by decide +kernel
theorem dX7_forgetMeasures_11 : decode cX7_forgetMeasures 11 = .ok (.invokevirtual 73, 3) := by decide +kernel
theorem dX7_forgetMeasures_14 : decode cX7_forgetMeasures 14 = .ok (.return_, 1) := by decide +kernel
def LT_forgetMeasures  (σ0 : St) : St := lt (TL_forgetMeasures σ0) (fun σ1 => lt (GT_forget σ1) (fun σ2 => σ2))
abbrev rm_LT_forgetMeasures : Room := { frames := 1, cells := 0, slots := 0, locals := 20 }
set_option maxHeartbeats 4000000 in
set_option maxRecDepth 100000 in
theorem k_LT_forgetMeasures (l : Launch) (ad : Nat → Nat) (cI cJ cZ : ClassId)  {σ0 : St} {τ : St} (hf : LT_forgetMeasures σ0 = τ) : CtV l yX7_forgetMeasures (gws (.code yX7_forgetMeasures cX7_forgetMeasures 1 none)) (rm_LT_forgetMeasures) (ty3 cI cJ cZ) (xw ad cI cJ) [.ref (ad 0)] σ0 τ := by
  refine CtV.of (by decide) (xw_ok ad cI cJ) (Nat.le_of_ble_eq_true rfl) ?_
  generalize hav : ([.ref (ad 0)] : List Value) = av
  intro p e s m below meth c D A hC ls hl hP hS
  obtain ⟨hx, hb, hr, hlocks, hml, hown, hts, hK, hN, hD, hA⟩ := id hC
  rw [← hav] at hl
  have hl : lv_has ls 1 [(0, .ref (ad 0))] := hl
  unfold LT_forgetMeasures at hf
  obtain ⟨H, hH⟩ : ∃ z, z = s.heap := ⟨_, rfl⟩
  obtain ⟨locs, hlocs⟩ : ∃ z : List Loc, z = [] := ⟨_, rfl⟩
  rw [← hH] at hP
  have hS : va_S A s.heap H locs := by rw [hH, hlocs]; exact va_S.rf
  suffices hgoal : W p l e _ s m _ below meth c H locs 0 0 _ _ by rw [hH, hlocs] at hgoal; exact hgoal
  refine lv_aload_n hx hb dX7_forgetMeasures_0 rfl (lv_at hl 0 rfl) ?_
  refine xg_0_3 hC hP tw_362 dX7_forgetMeasures_1 ?_
  obtain ⟨σ1, eσ1, hf⟩ := lt_e hf
  refine cVv (As := []) (rest := []) hC (k_TL_forgetMeasures l ad cI cJ cZ eσ1.symm) yy_X6_forgetMeasures tw_417 rfl rfl ⟨by decide, by decide⟩ hP hS (q0 := 4) (ci := 6) rfl rfl (xwa_4 ..) rfl hl.1 rfl (Nat.le_of_ble_eq_true rfl) dX7_forgetMeasures_4 (fun H locs hP hS => ?_)
  refine lv_aload_n hx hb dX7_forgetMeasures_7 rfl (lv_at hl 0 rfl) ?_
  refine xg_0_4 hC hP tw_363 dX7_forgetMeasures_8 ?_
  obtain ⟨σ2, eσ2, hf⟩ := lt_e hf
  refine cVv (As := []) (rest := []) hC (k_GT_forget l ad cI cJ cZ eσ2.symm) yy_X0_forget tw_355 rfl rfl ⟨by decide, by decide⟩ hP hS (q0 := 6) (ci := 0) rfl rfl (xwa_6 ..) rfl hl.1 rfl (Nat.le_of_ble_eq_true rfl) dX7_forgetMeasures_11 (fun H locs hP hS => ?_)
  have h2 := hf
  exact retV hx hb hr hlocks hP hS h2 dX7_forgetMeasures_14
theorem dX7_isTree_0 : decode cX7_isTree 0 = .ok (.aload_n 0, 1) := by decide +kernel
theorem dX7_isTree_1 : decode cX7_isTree 1 = .ok (.getfield 12, 3) := by decide +kernel
theorem dX7_isTree_4 : decode cX7_isTree 4 = .ok (.iload_n 1, 1) := by decide +kernel
theorem dX7_isTree_5 : decode cX7_isTree 5 = .ok (.invokevirtual 121, 3) := by decide +kernel
theorem dX7_isTree_8 : decode cX7_isTree 8 = .ok (.ifCond .eq 15, 3) := by decide +kernel
theorem dX7_isTree_11 : decode cX7_isTree 11 = .ok (.iload_n 1, 1) := by decide +kernel
theorem dX7_isTree_12 : decode cX7_isTree 12 = .ok (.aload_n 0, 1) := by decide +kernel
theorem dX7_isTree_13 : decode cX7_isTree 13 = .ok (.getfield 12, 3) := by decide +kernel
theorem dX7_isTree_16 : decode cX7_isTree 16 = .ok (.getfield 86, 3) := by decide +kernel
theorem dX7_isTree_19 : decode cX7_isTree 19 = .ok (.iand, 1) := by decide +kernel
theorem dX7_isTree_20 : decode cX7_isTree 20 = .ok (.ifCond .eq 5, 3) := by decide +kernel
theorem dX7_isTree_23 : decode cX7_isTree 23 = .ok (.iconst 0, 1) := by decide +kernel
theorem dX7_isTree_24 : decode cX7_isTree 24 = .ok (.ireturn, 1) := by decide +kernel
theorem dX7_isTree_25 : decode cX7_isTree 25 = .ok (.aload_n 0, 1) := by decide +kernel
theorem dX7_isTree_26 : decode cX7_isTree 26 = .ok (.getfield 35, 3) := by decide +kernel
theorem dX7_isTree_29 : decode cX7_isTree 29 = .ok (.invokevirtual 224, 3) := by decide +kernel
theorem dX7_isTree_32 : decode cX7_isTree 32 = .ok (.aload_n 0, 1) := by decide +kernel
theorem dX7_isTree_33 : decode cX7_isTree 33 = .ok (.getfield 35, 3) := by decide +kernel
theorem dX7_isTree_36 : decode cX7_isTree 36 = .ok (.iload_n 1, 1) := by decide +kernel
theorem dX7_isTree_37 : decode cX7_isTree 37 = .ok (.invokevirtual 227, 3) := by decide +kernel
theorem dX7_isTree_40 : decode cX7_isTree 40 = .ok (.iconst (-1), 1) := by decide +kernel
theorem dX7_isTree_41 : decode cX7_isTree 41 = .ok (.if_icmp .eq 7, 3) := by decide +kernel
theorem dX7_isTree_44 : decode cX7_isTree 44 = .ok (.iconst 1, 1) := by decide +kernel
theorem dX7_isTree_45 : decode cX7_isTree 45 = .ok (.goto 4, 3) := by decide +kernel
theorem dX7_isTree_48 : decode cX7_isTree 48 = .ok (.iconst 0, 1) := by decide +kernel
theorem dX7_isTree_49 : decode cX7_isTree 49 = .ok (.ireturn, 1) := by decide +kernel
def LT_isTree (N : Nat) (x1 : Int32) (σ0 : St) : Option (Int32 × St) := if (Net_hasLines x1 σ0) = 0 then some (0, σ0) else if (x1 &&& (σ0.1 4)) = 0 then bnd (TL_catchUp N σ0) (fun σ3 => bnd (TL_placeOf N x1 σ3) (fun y4 => if y4 = (-1) then some (0, σ3) else some (1, σ3))) else some (0, σ0)
abbrev rm_LT_isTree : Room := { frames := 12, cells := 0, slots := 0, locals := 298 }
set_option maxHeartbeats 4000000 in
set_option maxRecDepth 100000 in
theorem k_LT_isTree (l : Launch) (ad : Nat → Nat) (cI cJ cZ : ClassId) {N : Nat} {x1 : Int32} {σ0 : St} {r : Int32} {τ : St} (hf : LT_isTree N x1 σ0 = some (r, τ)) : CtI l yX7_isTree (gws (.code yX7_isTree cX7_isTree 2 (some .boolean))) (rm_LT_isTree) (ty3 cI cJ cZ) (xw ad cI cJ) [.ref (ad 0), .int x1] σ0 r τ := by
  refine CtI.of (by decide) (xw_ok ad cI cJ) (Nat.le_of_ble_eq_true rfl) ?_
  generalize hav : ([.ref (ad 0), .int x1] : List Value) = av
  intro p e s m below meth c D A hC ls hl hP hS
  obtain ⟨hx, hb, hr, hlocks, hml, hown, hts, hK, hN, hD, hA⟩ := id hC
  rw [← hav] at hl
  have hl : lv_has ls 2 [(0, .ref (ad 0)), (1, .int x1)] := hl
  unfold LT_isTree at hf
  obtain ⟨H, hH⟩ : ∃ z, z = s.heap := ⟨_, rfl⟩
  obtain ⟨locs, hlocs⟩ : ∃ z : List Loc, z = [] := ⟨_, rfl⟩
  rw [← hH] at hP
  have hS : va_S A s.heap H locs := by rw [hH, hlocs]; exact va_S.rf
  suffices hgoal : W p l e _ s m _ below meth c H locs 0 0 _ _ by rw [hH, hlocs] at hgoal; exact hgoal
  refine lv_aload_n hx hb dX7_isTree_0 rfl (lv_at hl 0 rfl) ?_
  refine xg_0_0 hC hP tw_359 dX7_isTree_1 ?_
  refine lv_iload_n hx hb dX7_isTree_4 rfl (lv_at hl 1 rfl) ?_
  refine cVi (As := [.int x1]) (rest := []) hC (k_Net_hasLines l ad cI cJ cZ rfl) yy_X2_hasLines tw_457 rfl rfl ⟨by decide, by decide⟩ hP hS (q0 := 1) (ci := 2) rfl rfl (xwa_1 ..) rfl hl.1 rfl (Nat.le_of_ble_eq_true rfl) dX7_isTree_5 (fun H locs hP hS => ?_)
  refine lv_if_eq (tgt := 23) hx hb dX7_isTree_8 (by decide) (fun c1 => ?_) (fun c1 => ?_)
  · rw [if_pos c1] at hf
    refine lv_iconst (v := 0) hx hb dX7_isTree_23 (by decide) ?_
    obtain ⟨h1, h2⟩ := ret2 hf
    exact retZ hx hb hr hlocks hP hS (Or.inl rfl) h1 h2 dX7_isTree_24
  rw [if_neg c1] at hf
  refine lv_iload_n hx hb dX7_isTree_11 rfl (lv_at hl 1 rfl) ?_
  refine lv_aload_n hx hb dX7_isTree_12 rfl (lv_at hl 0 rfl) ?_
  refine xg_0_0 hC hP tw_359 dX7_isTree_13 ?_
  refine xg_1_4 hC hP tw_78 dX7_isTree_16 ?_
  refine lv_iand hx hb dX7_isTree_19 ?_
  refine lv_if_eq (tgt := 25) hx hb dX7_isTree_20 (by decide) (fun c2 => ?_) (fun c2 => ?_)
  · rw [if_pos c2] at hf
    refine lv_aload_n hx hb dX7_isTree_25 rfl (lv_at hl 0 rfl) ?_
    refine xg_0_3 hC hP tw_362 dX7_isTree_26 ?_
    obtain ⟨σ3, hcσ3, hf⟩ := bnd_some hf
    refine cVv (As := []) (rest := []) hC (k_TL_catchUp l ad cI cJ cZ hcσ3) yy_X6_catchUp tw_465 rfl rfl ⟨by decide, by decide⟩ hP hS (q0 := 4) (ci := 6) rfl rfl (xwa_4 ..) rfl hl.1 rfl (Nat.le_of_ble_eq_true rfl) dX7_isTree_29 (fun H locs hP hS => ?_)
    refine lv_aload_n hx hb dX7_isTree_32 rfl (lv_at hl 0 rfl) ?_
    refine xg_0_3 hC hP tw_362 dX7_isTree_33 ?_
    refine lv_iload_n hx hb dX7_isTree_36 rfl (lv_at hl 1 rfl) ?_
    obtain ⟨y4, hcy4, hf⟩ := bnd_some hf
    refine cVi (As := [.int x1]) (rest := []) hC (k_TL_placeOf l ad cI cJ cZ hcy4) yy_X6_placeOf tw_493 rfl rfl ⟨by decide, by decide⟩ hP hS (q0 := 4) (ci := 6) rfl rfl (xwa_4 ..) rfl hl.1 rfl (Nat.le_of_ble_eq_true rfl) dX7_isTree_37 (fun H locs hP hS => ?_)
    refine lv_iconst (v := (-1)) hx hb dX7_isTree_40 (by decide) ?_
    refine lv_icmp_eq (tgt := 48) hx hb dX7_isTree_41 (by decide) (fun c5 => ?_) (fun c5 => ?_)
    · rw [if_pos c5] at hf
      refine lv_iconst (v := 0) hx hb dX7_isTree_48 (by decide) ?_
      obtain ⟨h1, h2⟩ := ret2 hf
      exact retZ hx hb hr hlocks hP hS (Or.inl rfl) h1 h2 dX7_isTree_49
    rw [if_neg c5] at hf
    refine lv_iconst (v := 1) hx hb dX7_isTree_44 (by decide) ?_
    refine lv_goto (tgt := 49) hx hb dX7_isTree_45 (by decide) ?_
    obtain ⟨h1, h2⟩ := ret2 hf
    exact retZ hx hb hr hlocks hP hS (Or.inr rfl) h1 h2 dX7_isTree_49
  rw [if_neg c2] at hf
  refine lv_iconst (v := 0) hx hb dX7_isTree_23 (by decide) ?_
  obtain ⟨h1, h2⟩ := ret2 hf
  exact retZ hx hb hr hlocks hP hS (Or.inl rfl) h1 h2 dX7_isTree_24
theorem dX7_judge_0 : decode cX7_judge 0 = .ok (.aload_n 0, 1) := by decide +kernel
theorem dX7_judge_1 : decode cX7_judge 1 = .ok (.getfield 44, 3) := by decide +kernel
theorem dX7_judge_4 : decode cX7_judge 4 = .ok (.getfield 230, 3) := by decide +kernel
theorem dX7_judge_7 : decode cX7_judge 7 = .ok (.ifCond .eq 4, 3) := by decide +kernel
theorem dX7_judge_10 : decode cX7_judge 10 = .ok (.return_, 1) := by decide +kernel
theorem dX7_judge_11 : decode cX7_judge 11 = .ok (.aload_n 0, 1) := by decide +kernel
theorem dX7_judge_12 : decode cX7_judge 12 = .ok (.getfield 35, 3) := by decide +kernel
theorem dX7_judge_15 : decode cX7_judge 15 = .ok (.invokevirtual 224, 3) := by decide +kernel
theorem dX7_judge_18 : decode cX7_judge 18 = .ok (.aload_n 0, 1) := by decide +kernel
theorem dX7_judge_19 : decode cX7_judge 19 = .ok (.getfield 35, 3) := by decide +kernel
theorem dX7_judge_22 : decode cX7_judge 22 = .ok (.aload_n 0, 1) := by decide +kernel
theorem dX7_judge_23 : decode cX7_judge 23 = .ok (.getfield 28, 3) := by decide +kernel
theorem dX7_judge_26 : decode cX7_judge 26 = .ok (.invokevirtual 234, 3) := by decide +kernel
theorem dX7_judge_29 : decode cX7_judge 29 = .ok (.aload_n 0, 1) := by decide +kernel
theorem dX7_judge_30 : decode cX7_judge 30 = .ok (.getfield 44, 3) := by decide +kernel
theorem dX7_judge_33 : decode cX7_judge 33 = .ok (.invokevirtual 238, 3) := by decide +kernel
theorem dX7_judge_36 : decode cX7_judge 36 = .ok (.aload_n 0, 1) := by decide +kernel
theorem dX7_judge_37 : decode cX7_judge 37 = .ok (.getfield 53, 3) := by decide +kernel
theorem dX7_judge_40 : decode cX7_judge 40 = .ok (.invokevirtual 241, 3) := by decide +kernel
theorem dX7_judge_43 : decode cX7_judge 43 = .ok (.return_, 1) := by decide +kernel
def LT_judge (N : Nat)  (σ0 : St) : Option (St) := if (σ0.1 20) = 0 then bnd (TL_catchUp N σ0) (fun σ2 => bnd (TL_measureAll N σ2) (fun σ3 => bnd (GT_find N σ3) (fun σ4 => lt (Rt_forget σ4) (fun σ5 => some σ5)))) else some σ0
abbrev rm_LT_judge : Room := { frames := 13, cells := 0, slots := 0, locals := 354 }
set_option maxHeartbeats 4000000 in
set_option maxRecDepth 100000 in
theorem k_LT_judge (l : Launch) (ad : Nat → Nat) (cI cJ cZ : ClassId) {N : Nat}  {σ0 : St} {τ : St} (hf : LT_judge N σ0 = some τ) : CtV l yX7_judge (gws (.code yX7_judge cX7_judge 1 none)) (rm_LT_judge) (ty3 cI cJ cZ) (xw ad cI cJ) [.ref (ad 0)] σ0 τ := by
  refine CtV.of (by decide) (xw_ok ad cI cJ) (Nat.le_of_ble_eq_true rfl) ?_
  generalize hav : ([.ref (ad 0)] : List Value) = av
  intro p e s m below meth c D A hC ls hl hP hS
  obtain ⟨hx, hb, hr, hlocks, hml, hown, hts, hK, hN, hD, hA⟩ := id hC
  rw [← hav] at hl
  have hl : lv_has ls 1 [(0, .ref (ad 0))] := hl
  unfold LT_judge at hf
  obtain ⟨H, hH⟩ : ∃ z, z = s.heap := ⟨_, rfl⟩
  obtain ⟨locs, hlocs⟩ : ∃ z : List Loc, z = [] := ⟨_, rfl⟩
  rw [← hH] at hP
  have hS : va_S A s.heap H locs := by rw [hH, hlocs]; exact va_S.rf
  suffices hgoal : W p l e _ s m _ below meth c H locs 0 0 _ _ by rw [hH, hlocs] at hgoal; exact hgoal
  refine lv_aload_n hx hb dX7_judge_0 rfl (lv_at hl 0 rfl) ?_
  refine xg_0_4 hC hP tw_363 dX7_judge_1 ?_
  refine xg_6_3 hC hP tw_261 dX7_judge_4 ?_
  refine lv_if_eq (tgt := 11) hx hb dX7_judge_7 (by decide) (fun c1 => ?_) (fun c1 => ?_)
  · rw [if_pos c1] at hf
    refine lv_aload_n hx hb dX7_judge_11 rfl (lv_at hl 0 rfl) ?_
    refine xg_0_3 hC hP tw_362 dX7_judge_12 ?_
    obtain ⟨σ2, hcσ2, hf⟩ := bnd_some hf
    refine cVv (As := []) (rest := []) hC (k_TL_catchUp l ad cI cJ cZ hcσ2) yy_X6_catchUp tw_465 rfl rfl ⟨by decide, by decide⟩ hP hS (q0 := 4) (ci := 6) rfl rfl (xwa_4 ..) rfl hl.1 rfl (Nat.le_of_ble_eq_true rfl) dX7_judge_15 (fun H locs hP hS => ?_)
    refine lv_aload_n hx hb dX7_judge_18 rfl (lv_at hl 0 rfl) ?_
    refine xg_0_3 hC hP tw_362 dX7_judge_19 ?_
    refine lv_aload_n hx hb dX7_judge_22 rfl (lv_at hl 0 rfl) ?_
    refine xg_0_2 hC hP tw_361 dX7_judge_23 ?_
    obtain ⟨σ3, hcσ3, hf⟩ := bnd_some hf
    refine cVv (As := [.ref (ad 3)]) (rest := []) hC (k_TL_measureAll l ad cI cJ cZ hcσ3) yy_X6_measureAll tw_568 rfl rfl ⟨by decide, by decide⟩ hP hS (q0 := 4) (ci := 6) rfl rfl (xwa_4 ..) rfl hl.1 rfl (Nat.le_of_ble_eq_true rfl) dX7_judge_26 (fun H locs hP hS => ?_)
    refine lv_aload_n hx hb dX7_judge_29 rfl (lv_at hl 0 rfl) ?_
    refine xg_0_4 hC hP tw_363 dX7_judge_30 ?_
    obtain ⟨σ4, hcσ4, hf⟩ := bnd_some hf
    refine cVv (As := []) (rest := []) hC (k_GT_find l ad cI cJ cZ hcσ4) yy_X0_find tw_573 rfl rfl ⟨by decide, by decide⟩ hP hS (q0 := 6) (ci := 0) rfl rfl (xwa_6 ..) rfl hl.1 rfl (Nat.le_of_ble_eq_true rfl) dX7_judge_33 (fun H locs hP hS => ?_)
    refine lv_aload_n hx hb dX7_judge_36 rfl (lv_at hl 0 rfl) ?_
    refine xg_0_5 hC hP tw_364 dX7_judge_37 ?_
    obtain ⟨σ5, eσ5, hf⟩ := lt_e hf
    refine cVv (As := []) (rest := []) hC (k_Rt_forget l ad cI cJ cZ eσ5.symm) yy_X3_forget tw_586 rfl rfl ⟨by decide, by decide⟩ hP hS (q0 := 7) (ci := 3) rfl rfl (xwa_7 ..) rfl hl.1 rfl (Nat.le_of_ble_eq_true rfl) dX7_judge_40 (fun H locs hP hS => ?_)
    have h2 := Option.some.inj hf
    exact retV hx hb hr hlocks hP hS h2 dX7_judge_43
  rw [if_neg c1] at hf
  have h2 := Option.some.inj hf
  exact retV hx hb hr hlocks hP hS h2 dX7_judge_10
theorem dX7_wholeTrees_0 : decode cX7_wholeTrees 0 = .ok (.aload_n 0, 1) := by decide +kernel
theorem dX7_wholeTrees_1 : decode cX7_wholeTrees 1 = .ok (.invokevirtual 146, 3) := by decide +kernel
theorem dX7_wholeTrees_4 : decode cX7_wholeTrees 4 = .ok (.aload_n 0, 1) := by decide +kernel
theorem dX7_wholeTrees_5 : decode cX7_wholeTrees 5 = .ok (.getfield 44, 3) := by decide +kernel
theorem dX7_wholeTrees_8 : decode cX7_wholeTrees 8 = .ok (.getfield 211, 3) := by decide +kernel
theorem dX7_wholeTrees_11 : decode cX7_wholeTrees 11 = .ok (.ireturn, 1) := by decide +kernel
def LT_wholeTrees (N : Nat)  (σ0 : St) : Option (Int32 × St) := bnd (LT_judge N σ0) (fun σ1 => some ((σ1.1 19), σ1))
abbrev rm_LT_wholeTrees : Room := { frames := 14, cells := 0, slots := 0, locals := 374 }
set_option maxHeartbeats 4000000 in
set_option maxRecDepth 100000 in
theorem k_LT_wholeTrees (l : Launch) (ad : Nat → Nat) (cI cJ cZ : ClassId) {N : Nat}  {σ0 : St} {r : Int32} {τ : St} (hf : LT_wholeTrees N σ0 = some (r, τ)) : CtI l yX7_wholeTrees (gws (.code yX7_wholeTrees cX7_wholeTrees 1 (some .int))) (rm_LT_wholeTrees) (ty3 cI cJ cZ) (xw ad cI cJ) [.ref (ad 0)] σ0 r τ := by
  refine CtI.of (by decide) (xw_ok ad cI cJ) (Nat.le_of_ble_eq_true rfl) ?_
  generalize hav : ([.ref (ad 0)] : List Value) = av
  intro p e s m below meth c D A hC ls hl hP hS
  obtain ⟨hx, hb, hr, hlocks, hml, hown, hts, hK, hN, hD, hA⟩ := id hC
  rw [← hav] at hl
  have hl : lv_has ls 1 [(0, .ref (ad 0))] := hl
  unfold LT_wholeTrees at hf
  obtain ⟨H, hH⟩ : ∃ z, z = s.heap := ⟨_, rfl⟩
  obtain ⟨locs, hlocs⟩ : ∃ z : List Loc, z = [] := ⟨_, rfl⟩
  rw [← hH] at hP
  have hS : va_S A s.heap H locs := by rw [hH, hlocs]; exact va_S.rf
  suffices hgoal : W p l e _ s m _ below meth c H locs 0 0 _ _ by rw [hH, hlocs] at hgoal; exact hgoal
  refine lv_aload_n hx hb dX7_wholeTrees_0 rfl (lv_at hl 0 rfl) ?_
  obtain ⟨σ1, hcσ1, hf⟩ := bnd_some hf
  refine cVv (As := []) (rest := []) hC (k_LT_judge l ad cI cJ cZ hcσ1) yy_X7_judge tw_564 rfl rfl ⟨by decide, by decide⟩ hP hS (q0 := 0) (ci := 7) rfl rfl (xwa_0 ..) rfl hl.1 rfl (Nat.le_of_ble_eq_true rfl) dX7_wholeTrees_1 (fun H locs hP hS => ?_)
  refine lv_aload_n hx hb dX7_wholeTrees_4 rfl (lv_at hl 0 rfl) ?_
  refine xg_0_4 hC hP tw_363 dX7_wholeTrees_5 ?_
  refine xg_6_2 hC hP tw_259 dX7_wholeTrees_8 ?_
  obtain ⟨h1, h2⟩ := ret2 hf
  exact retI hx hb hr hlocks hP hS h1 h2 dX7_wholeTrees_11
theorem dX7_countAtPost_0 : decode cX7_countAtPost 0 = .ok (.iload_n 1, 1) := by decide +kernel
theorem dX7_countAtPost_1 : decode cX7_countAtPost 1 = .ok (.bipush 20, 2) := by decide +kernel
theorem dX7_countAtPost_3 : decode cX7_countAtPost 3 = .ok (.bipush 20, 2) := by decide +kernel
theorem dX7_countAtPost_5 : decode cX7_countAtPost 5 = .ok (.aload_n 0, 1) := by decide +kernel
theorem dX7_countAtPost_6 : decode cX7_countAtPost 6 = .ok (.getfield 12, 3) := by decide +kernel
theorem dX7_countAtPost_9 : decode cX7_countAtPost 9 = .ok (.getfield 197, 3) := by decide +kernel
theorem dX7_countAtPost_12 : decode cX7_countAtPost 12 = .ok (.iadd, 1) := by decide +kernel
theorem dX7_countAtPost_13 : decode cX7_countAtPost 13 = .ok (.iconst 1, 1) := by decide +kernel
theorem dX7_countAtPost_14 : decode cX7_countAtPost 14 = .ok (.isub, 1) := by decide +kernel
theorem dX7_countAtPost_15 : decode cX7_countAtPost 15 = .ok (.invokestatic 61, 3) := by decide +kernel
theorem dX7_countAtPost_18 : decode cX7_countAtPost 18 = .ok (.ifCond .eq 16, 3) := by decide +kernel
theorem dX7_countAtPost_21 : decode cX7_countAtPost 21 = .ok (.aload_n 0, 1) := by decide +kernel
theorem dX7_countAtPost_22 : decode cX7_countAtPost 22 = .ok (.getfield 19, 3) := by decide +kernel
theorem dX7_countAtPost_25 : decode cX7_countAtPost 25 = .ok (.getfield 214, 3) := by decide +kernel
theorem dX7_countAtPost_28 : decode cX7_countAtPost 28 = .ok (.iload_n 1, 1) := by decide +kernel
theorem dX7_countAtPost_29 : decode cX7_countAtPost 29 = .ok (.bipush 20, 2) := by decide +kernel
theorem dX7_countAtPost_31 : decode cX7_countAtPost 31 = .ok (.isub, 1) := by decide +kernel
theorem dX7_countAtPost_32 : decode cX7_countAtPost 32 = .ok (.iaload, 1) := by decide +kernel
theorem dX7_countAtPost_33 : decode cX7_countAtPost 33 = .ok (.ireturn, 1) := by decide +kernel
theorem dX7_countAtPost_34 : decode cX7_countAtPost 34 = .ok (.iload_n 1, 1) := by decide +kernel
theorem dX7_countAtPost_35 : decode cX7_countAtPost 35 = .ok (.bipush 30, 2) := by decide +kernel
theorem dX7_countAtPost_37 : decode cX7_countAtPost 37 = .ok (.bipush 30, 2) := by decide +kernel
theorem dX7_countAtPost_39 : decode cX7_countAtPost 39 = .ok (.aload_n 0, 1) := by decide +kernel
theorem dX7_countAtPost_40 : decode cX7_countAtPost 40 = .ok (.getfield 12, 3) := by decide +kernel
theorem dX7_countAtPost_43 : decode cX7_countAtPost 43 = .ok (.getfield 197, 3) := by decide +kernel
theorem dX7_countAtPost_46 : decode cX7_countAtPost 46 = .ok (.iadd, 1) := by decide +kernel
theorem dX7_countAtPost_47 : decode cX7_countAtPost 47 = .ok (.iconst 1, 1) := by decide +kernel
theorem dX7_countAtPost_48 : decode cX7_countAtPost 48 = .ok (.isub, 1) := by decide +kernel
theorem dX7_countAtPost_49 : decode cX7_countAtPost 49 = .ok (.invokestatic 61, 3) := by decide +kernel
theorem dX7_countAtPost_52 : decode cX7_countAtPost 52 = .ok (.ifCond .eq 16, 3) := by decide +kernel
theorem dX7_countAtPost_55 : decode cX7_countAtPost 55 = .ok (.aload_n 0, 1) := by decide +kernel
theorem dX7_countAtPost_56 : decode cX7_countAtPost 56 = .ok (.getfield 12, 3) := by decide +kernel
theorem dX7_countAtPost_59 : decode cX7_countAtPost 59 = .ok (.getfield 109, 3) := by decide +kernel
theorem dX7_countAtPost_62 : decode cX7_countAtPost 62 = .ok (.iload_n 1, 1) := by decide +kernel
theorem dX7_countAtPost_63 : decode cX7_countAtPost 63 = .ok (.bipush 30, 2) := by decide +kernel
theorem dX7_countAtPost_65 : decode cX7_countAtPost 65 = .ok (.isub, 1) := by decide +kernel
theorem dX7_countAtPost_66 : decode cX7_countAtPost 66 = .ok (.iaload, 1) := by decide +kernel
theorem dX7_countAtPost_67 : decode cX7_countAtPost 67 = .ok (.ireturn, 1) := by decide +kernel
theorem dX7_countAtPost_68 : decode cX7_countAtPost 68 = .ok (.iconst (-1), 1) := by decide +kernel
theorem dX7_countAtPost_69 : decode cX7_countAtPost 69 = .ok (.ireturn, 1) := by decide +kernel
def LT_countAtPost (N : Nat) (x1 : Int32) (σ0 : St) : Option (Int32) := if (LT_within x1 20 ((20 + (σ0.1 0)) - 1)) = 0 then if (LT_within x1 30 ((30 + (σ0.1 0)) - 1)) = 0 then some (-1) else grd (inb (x1 - 30) 8) (some (σ0.2.1 0 ((x1 - 30)).toNatClampNeg)) else grd (inb (x1 - 20) 8) (some (σ0.2.1 5 ((x1 - 20)).toNatClampNeg))
abbrev rm_LT_countAtPost : Room := { frames := 1, cells := 0, slots := 0, locals := 22 }
set_option maxHeartbeats 4000000 in
set_option maxRecDepth 100000 in
theorem k_LT_countAtPost (l : Launch) (ad : Nat → Nat) (cI cJ cZ : ClassId) {N : Nat} {x1 : Int32} {σ0 : St} {r : Int32} (hf : LT_countAtPost N x1 σ0 = some r) : CtI l yX7_countAtPost (gws (.code yX7_countAtPost cX7_countAtPost 2 (some .int))) (rm_LT_countAtPost) (ty3 cI cJ cZ) (xw ad cI cJ) [.ref (ad 0), .int x1] σ0 r σ0 := by
  refine CtI.of (by decide) (xw_ok ad cI cJ) (Nat.le_of_ble_eq_true rfl) ?_
  generalize hav : ([.ref (ad 0), .int x1] : List Value) = av
  intro p e s m below meth c D A hC ls hl hP hS
  obtain ⟨hx, hb, hr, hlocks, hml, hown, hts, hK, hN, hD, hA⟩ := id hC
  rw [← hav] at hl
  have hl : lv_has ls 2 [(0, .ref (ad 0)), (1, .int x1)] := hl
  unfold LT_countAtPost at hf
  obtain ⟨H, hH⟩ : ∃ z, z = s.heap := ⟨_, rfl⟩
  obtain ⟨locs, hlocs⟩ : ∃ z : List Loc, z = [] := ⟨_, rfl⟩
  rw [← hH] at hP
  have hS : va_S A s.heap H locs := by rw [hH, hlocs]; exact va_S.rf
  suffices hgoal : W p l e _ s m _ below meth c H locs 0 0 _ _ by rw [hH, hlocs] at hgoal; exact hgoal
  refine lv_iload_n hx hb dX7_countAtPost_0 rfl (lv_at hl 1 rfl) ?_
  refine lv_bipush (v := 20) hx hb dX7_countAtPost_1 (by decide) ?_
  refine lv_bipush (v := 20) hx hb dX7_countAtPost_3 (by decide) ?_
  refine lv_aload_n hx hb dX7_countAtPost_5 rfl (lv_at hl 0 rfl) ?_
  refine xg_0_0 hC hP tw_359 dX7_countAtPost_6 ?_
  refine xg_1_0 hC hP tw_67 dX7_countAtPost_9 ?_
  refine lv_iadd hx hb dX7_countAtPost_12 ?_
  refine lv_iconst (v := 1) hx hb dX7_countAtPost_13 (by decide) ?_
  refine lv_isub hx hb dX7_countAtPost_14 ?_
  refine cSi (As := [.int x1, .int 20, .int ((20 + (σ0.1 0)) - 1)]) (rest := []) hC (k_LT_within l (xw ad cI cJ) (xw_ok ad cI cJ) (ty3 cI cJ cZ) _ rfl) yy_X7_within tw_382 rfl rfl ⟨by decide, by decide⟩ hP hS rfl hl.1 rfl (Nat.le_of_ble_eq_true rfl) dX7_countAtPost_15 (fun H locs hP hS => ?_)
  refine lv_if_eq (tgt := 34) hx hb dX7_countAtPost_18 (by decide) (fun c1 => ?_) (fun c1 => ?_)
  · rw [if_pos c1] at hf
    refine lv_iload_n hx hb dX7_countAtPost_34 rfl (lv_at hl 1 rfl) ?_
    refine lv_bipush (v := 30) hx hb dX7_countAtPost_35 (by decide) ?_
    refine lv_bipush (v := 30) hx hb dX7_countAtPost_37 (by decide) ?_
    refine lv_aload_n hx hb dX7_countAtPost_39 rfl (lv_at hl 0 rfl) ?_
    refine xg_0_0 hC hP tw_359 dX7_countAtPost_40 ?_
    refine xg_1_0 hC hP tw_67 dX7_countAtPost_43 ?_
    refine lv_iadd hx hb dX7_countAtPost_46 ?_
    refine lv_iconst (v := 1) hx hb dX7_countAtPost_47 (by decide) ?_
    refine lv_isub hx hb dX7_countAtPost_48 ?_
    refine cSi (As := [.int x1, .int 30, .int ((30 + (σ0.1 0)) - 1)]) (rest := []) hC (k_LT_within l (xw ad cI cJ) (xw_ok ad cI cJ) (ty3 cI cJ cZ) _ rfl) yy_X7_within tw_382 rfl rfl ⟨by decide, by decide⟩ hP hS rfl hl.1 rfl (Nat.le_of_ble_eq_true rfl) dX7_countAtPost_49 (fun H locs hP hS => ?_)
    refine lv_if_eq (tgt := 68) hx hb dX7_countAtPost_52 (by decide) (fun c2 => ?_) (fun c2 => ?_)
    · rw [if_pos c2] at hf
      refine lv_iconst (v := (-1)) hx hb dX7_countAtPost_68 (by decide) ?_
      have h1 := Option.some.inj hf
      exact retI hx hb hr hlocks hP hS h1 rfl dX7_countAtPost_69
    rw [if_neg c2] at hf
    refine lv_aload_n hx hb dX7_countAtPost_55 rfl (lv_at hl 0 rfl) ?_
    refine xg_0_0 hC hP tw_359 dX7_countAtPost_56 ?_
    refine xg_1_5 hC hP tw_81 dX7_countAtPost_59 ?_
    refine lv_iload_n hx hb dX7_countAtPost_62 rfl (lv_at hl 1 rfl) ?_
    refine lv_bipush (v := 30) hx hb dX7_countAtPost_63 (by decide) ?_
    refine lv_isub hx hb dX7_countAtPost_65 ?_
    obtain ⟨g3, hf⟩ := grd_some hf
    refine xl_9 hC hP g3 dX7_countAtPost_66 ?_
    have h1 := Option.some.inj hf
    exact retI hx hb hr hlocks hP hS h1 rfl dX7_countAtPost_67
  rw [if_neg c1] at hf
  refine lv_aload_n hx hb dX7_countAtPost_21 rfl (lv_at hl 0 rfl) ?_
  refine xg_0_1 hC hP tw_360 dX7_countAtPost_22 ?_
  refine xg_2_0 hC hP tw_125 dX7_countAtPost_25 ?_
  refine lv_iload_n hx hb dX7_countAtPost_28 rfl (lv_at hl 1 rfl) ?_
  refine lv_bipush (v := 20) hx hb dX7_countAtPost_29 (by decide) ?_
  refine lv_isub hx hb dX7_countAtPost_31 ?_
  obtain ⟨g4, hf⟩ := grd_some hf
  refine xl_14 hC hP g4 dX7_countAtPost_32 ?_
  have h1 := Option.some.inj hf
  exact retI hx hb hr hlocks hP hS h1 rfl dX7_countAtPost_33
theorem dX7_posts_0 : decode cX7_posts 0 = .ok (.iload_n 1, 1) := by decide +kernel
theorem dX7_posts_1 : decode cX7_posts 1 = .ok (.iconst 2, 1) := by decide +kernel
theorem dX7_posts_2 : decode cX7_posts 2 = .ok (.bipush 8, 2) := by decide +kernel
theorem dX7_posts_4 : decode cX7_posts 4 = .ok (.invokestatic 61, 3) := by decide +kernel
theorem dX7_posts_7 : decode cX7_posts 7 = .ok (.ifCond .ne 5, 3) := by decide +kernel
theorem dX7_posts_10 : decode cX7_posts 10 = .ok (.iconst 0, 1) := by decide +kernel
theorem dX7_posts_11 : decode cX7_posts 11 = .ok (.ireturn, 1) := by decide +kernel
theorem dX7_posts_12 : decode cX7_posts 12 = .ok (.aload_n 0, 1) := by decide +kernel
theorem dX7_posts_13 : decode cX7_posts 13 = .ok (.iload_n 1, 1) := by decide +kernel
theorem dX7_posts_14 : decode cX7_posts 14 = .ok (.invokevirtual 57, 3) := by decide +kernel
theorem dX7_posts_17 : decode cX7_posts 17 = .ok (.iconst 1, 1) := by decide +kernel
theorem dX7_posts_18 : decode cX7_posts 18 = .ok (.ireturn, 1) := by decide +kernel
def LT_posts (x1 : Int32) (σ0 : St) : (Int32 × St) := if (LT_within x1 2 8) = 0 then (0, σ0) else lt (LT_startAnew x1 σ0) (fun σ2 => (1, σ2))
abbrev rm_LT_posts : Room := { frames := 4, cells := 0, slots := 0, locals := 85 }
set_option maxHeartbeats 4000000 in
set_option maxRecDepth 100000 in
theorem k_LT_posts (l : Launch) (ad : Nat → Nat) (cI cJ cZ : ClassId) {x1 : Int32} {σ0 : St} {r : Int32} {τ : St} (hf : LT_posts x1 σ0 = (r, τ)) : CtI l yX7_posts (gws (.code yX7_posts cX7_posts 2 (some .boolean))) (rm_LT_posts) (ty3 cI cJ cZ) (xw ad cI cJ) [.ref (ad 0), .int x1] σ0 r τ := by
  refine CtI.of (by decide) (xw_ok ad cI cJ) (Nat.le_of_ble_eq_true rfl) ?_
  generalize hav : ([.ref (ad 0), .int x1] : List Value) = av
  intro p e s m below meth c D A hC ls hl hP hS
  obtain ⟨hx, hb, hr, hlocks, hml, hown, hts, hK, hN, hD, hA⟩ := id hC
  rw [← hav] at hl
  have hl : lv_has ls 2 [(0, .ref (ad 0)), (1, .int x1)] := hl
  unfold LT_posts at hf
  obtain ⟨H, hH⟩ : ∃ z, z = s.heap := ⟨_, rfl⟩
  obtain ⟨locs, hlocs⟩ : ∃ z : List Loc, z = [] := ⟨_, rfl⟩
  rw [← hH] at hP
  have hS : va_S A s.heap H locs := by rw [hH, hlocs]; exact va_S.rf
  suffices hgoal : W p l e _ s m _ below meth c H locs 0 0 _ _ by rw [hH, hlocs] at hgoal; exact hgoal
  refine lv_iload_n hx hb dX7_posts_0 rfl (lv_at hl 1 rfl) ?_
  refine lv_iconst (v := 2) hx hb dX7_posts_1 (by decide) ?_
  refine lv_bipush (v := 8) hx hb dX7_posts_2 (by decide) ?_
  refine cSi (As := [.int x1, .int 2, .int 8]) (rest := []) hC (k_LT_within l (xw ad cI cJ) (xw_ok ad cI cJ) (ty3 cI cJ cZ) _ rfl) yy_X7_within tw_382 rfl rfl ⟨by decide, by decide⟩ hP hS rfl hl.1 rfl (Nat.le_of_ble_eq_true rfl) dX7_posts_4 (fun H locs hP hS => ?_)
  refine lv_if_ne (tgt := 12) hx hb dX7_posts_7 (by decide) (fun c1 => ?_) (fun c1 => ?_)
  · rw [if_neg c1] at hf
    refine lv_aload_n hx hb dX7_posts_12 rfl (lv_at hl 0 rfl) ?_
    refine lv_iload_n hx hb dX7_posts_13 rfl (lv_at hl 1 rfl) ?_
    obtain ⟨σ2, eσ2, hf⟩ := lt_e hf
    refine cVv (As := [.int x1]) (rest := []) hC (k_LT_startAnew l ad cI cJ cZ eσ2.symm) yy_X7_startAnew tw_328 rfl rfl ⟨by decide, by decide⟩ hP hS (q0 := 0) (ci := 7) rfl rfl (xwa_0 ..) rfl hl.1 rfl (Nat.le_of_ble_eq_true rfl) dX7_posts_14 (fun H locs hP hS => ?_)
    refine lv_iconst (v := 1) hx hb dX7_posts_17 (by decide) ?_
    obtain ⟨h1, h2⟩ := ret2t hf
    exact retZ hx hb hr hlocks hP hS (Or.inr rfl) h1 h2 dX7_posts_18
  rw [if_pos c1] at hf
  refine lv_iconst (v := 0) hx hb dX7_posts_10 (by decide) ?_
  obtain ⟨h1, h2⟩ := ret2t hf
  exact retZ hx hb hr hlocks hP hS (Or.inl rfl) h1 h2 dX7_posts_11
theorem dX7_line_0 : decode cX7_line 0 = .ok (.aload_n 0, 1) := by decide +kernel
theorem dX7_line_1 : decode cX7_line 1 = .ok (.getfield 12, 3) := by decide +kernel
theorem dX7_line_4 : decode cX7_line 4 = .ok (.iload_n 1, 1) := by decide +kernel
theorem dX7_line_5 : decode cX7_line 5 = .ok (.invokevirtual 65, 3) := by decide +kernel
theorem dX7_line_8 : decode cX7_line 8 = .ok (.ifCond .eq 23, 3) := by decide +kernel
theorem dX7_line_11 : decode cX7_line 11 = .ok (.aload_n 0, 1) := by decide +kernel
theorem dX7_line_12 : decode cX7_line 12 = .ok (.getfield 12, 3) := by decide +kernel
theorem dX7_line_15 : decode cX7_line 15 = .ok (.iload_n 2, 1) := by decide +kernel
theorem dX7_line_16 : decode cX7_line 16 = .ok (.invokevirtual 65, 3) := by decide +kernel
theorem dX7_line_19 : decode cX7_line 19 = .ok (.ifCond .eq 12, 3) := by decide +kernel
theorem dX7_line_22 : decode cX7_line 22 = .ok (.iload_n 1, 1) := by decide +kernel
theorem dX7_line_23 : decode cX7_line 23 = .ok (.iload_n 2, 1) := by decide +kernel
theorem dX7_line_24 : decode cX7_line 24 = .ok (.if_icmp .eq 7, 3) := by decide +kernel
theorem dX7_line_27 : decode cX7_line 27 = .ok (.iconst 1, 1) := by decide +kernel
theorem dX7_line_28 : decode cX7_line 28 = .ok (.goto 4, 3) := by decide +kernel
theorem dX7_line_31 : decode cX7_line 31 = .ok (.iconst 0, 1) := by decide +kernel
theorem dX7_line_32 : decode cX7_line 32 = .ok (.istore 5, 2) := by decide +kernel
theorem dX7_line_34 : decode cX7_line 34 = .ok (.iload_n 3, 1) := by decide +kernel
theorem dX7_line_35 : decode cX7_line 35 = .ok (.iconst 0, 1) := by decide +kernel
theorem dX7_line_36 : decode cX7_line 36 = .ok (.sipush 999, 3) := by decide +kernel
theorem dX7_line_39 : decode cX7_line 39 = .ok (.invokestatic 61, 3) := by decide +kernel
theorem dX7_line_42 : decode cX7_line 42 = .ok (.ifCond .eq 17, 3) := by decide +kernel
theorem dX7_line_45 : decode cX7_line 45 = .ok (.iload 4, 2) := by decide +kernel
theorem dX7_line_47 : decode cX7_line 47 = .ok (.iconst 0, 1) := by decide +kernel
theorem dX7_line_48 : decode cX7_line 48 = .ok (.iconst 1, 1) := by decide +kernel
theorem dX7_line_49 : decode cX7_line 49 = .ok (.invokestatic 61, 3) := by decide +kernel
theorem dX7_line_52 : decode cX7_line 52 = .ok (.ifCond .eq 7, 3) := by decide +kernel
theorem dX7_line_55 : decode cX7_line 55 = .ok (.iconst 1, 1) := by decide +kernel
theorem dX7_line_56 : decode cX7_line 56 = .ok (.goto 4, 3) := by decide +kernel
theorem dX7_line_59 : decode cX7_line 59 = .ok (.iconst 0, 1) := by decide +kernel
theorem dX7_line_60 : decode cX7_line 60 = .ok (.istore 6, 2) := by decide +kernel
theorem dX7_line_62 : decode cX7_line 62 = .ok (.iload 5, 2) := by decide +kernel
theorem dX7_line_64 : decode cX7_line 64 = .ok (.ifCond .eq 20, 3) := by decide +kernel
theorem dX7_line_67 : decode cX7_line 67 = .ok (.iload 6, 2) := by decide +kernel
theorem dX7_line_69 : decode cX7_line 69 = .ok (.ifCond .eq 15, 3) := by decide +kernel
theorem dX7_line_72 : decode cX7_line 72 = .ok (.aload_n 0, 1) := by decide +kernel
theorem dX7_line_73 : decode cX7_line 73 = .ok (.getfield 12, 3) := by decide +kernel
theorem dX7_line_76 : decode cX7_line 76 = .ok (.getfield 69, 3) := by decide +kernel
theorem dX7_line_79 : decode cX7_line 79 = .ok (.bipush 14, 2) := by decide +kernel
theorem dX7_line_81 : decode cX7_line 81 = .ok (.if_icmp .lt 5, 3) := by decide +kernel
theorem dX7_line_84 : decode cX7_line 84 = .ok (.iconst (-1), 1) := by decide +kernel
theorem dX7_line_85 : decode cX7_line 85 = .ok (.ireturn, 1) := by decide +kernel
theorem dX7_line_86 : decode cX7_line 86 = .ok (.aload_n 0, 1) := by decide +kernel
theorem dX7_line_87 : decode cX7_line 87 = .ok (.getfield 44, 3) := by decide +kernel
theorem dX7_line_90 : decode cX7_line 90 = .ok (.invokevirtual 73, 3) := by decide +kernel
theorem dX7_line_93 : decode cX7_line 93 = .ok (.aload_n 0, 1) := by decide +kernel
theorem dX7_line_94 : decode cX7_line 94 = .ok (.getfield 12, 3) := by decide +kernel
theorem dX7_line_97 : decode cX7_line 97 = .ok (.iload_n 1, 1) := by decide +kernel
theorem dX7_line_98 : decode cX7_line 98 = .ok (.iload_n 2, 1) := by decide +kernel
theorem dX7_line_99 : decode cX7_line 99 = .ok (.iload_n 3, 1) := by decide +kernel
theorem dX7_line_100 : decode cX7_line 100 = .ok (.iload 4, 2) := by decide +kernel
theorem dX7_line_102 : decode cX7_line 102 = .ok (.invokevirtual 76, 3) := by decide +kernel
theorem dX7_line_105 : decode cX7_line 105 = .ok (.ireturn, 1) := by decide +kernel
def LT_line_60 (N : Nat) (x1 : Int32) (x2 : Int32) (x3 : Int32) (x4 : Int32) (x5 : Int32) (t0 : Int32) (σ : St) : Option (Int32 × St) := if x5 = 0 then some ((-1), σ) else if t0 = 0 then some ((-1), σ) else if (σ.1 2) < 14 then lt (GT_forget σ) (fun σ4 => bnd2 (Net_addLine N x1 x2 x3 x4 σ4) (fun y5 σ6 => some (y5, σ6))) else some ((-1), σ)
def LT_line_32 (N : Nat) (x1 : Int32) (x2 : Int32) (x3 : Int32) (x4 : Int32) (t0 : Int32) (σ : St) : Option (Int32 × St) := if (LT_within x3 0 999) = 0 then LT_line_60 N x1 x2 x3 x4 t0 0 σ else if (LT_within x4 0 1) = 0 then LT_line_60 N x1 x2 x3 x4 t0 0 σ else LT_line_60 N x1 x2 x3 x4 t0 1 σ
def LT_line (N : Nat) (x1 : Int32) (x2 : Int32) (x3 : Int32) (x4 : Int32) (σ0 : St) : Option (Int32 × St) := if (Net_hasPost x1 σ0) = 0 then LT_line_32 N x1 x2 x3 x4 0 σ0 else if (Net_hasPost x2 σ0) = 0 then LT_line_32 N x1 x2 x3 x4 0 σ0 else if x1 = x2 then LT_line_32 N x1 x2 x3 x4 0 σ0 else LT_line_32 N x1 x2 x3 x4 1 σ0
abbrev rm_LT_line : Room := { frames := 1, cells := 0, slots := 0, locals := 25 }
set_option maxHeartbeats 4000000 in
set_option maxRecDepth 100000 in
theorem k_LT_line (l : Launch) (ad : Nat → Nat) (cI cJ cZ : ClassId) {N : Nat} {x1 : Int32} {x2 : Int32} {x3 : Int32} {x4 : Int32} {σ0 : St} {r : Int32} {τ : St} (hf : LT_line N x1 x2 x3 x4 σ0 = some (r, τ)) : CtI l yX7_line (gws (.code yX7_line cX7_line 7 (some .int))) (rm_LT_line) (ty3 cI cJ cZ) (xw ad cI cJ) [.ref (ad 0), .int x1, .int x2, .int x3, .int x4] σ0 r τ := by
  refine CtI.of (by decide) (xw_ok ad cI cJ) (Nat.le_of_ble_eq_true rfl) ?_
  generalize hav : ([.ref (ad 0), .int x1, .int x2, .int x3, .int x4] : List Value) = av
  intro p e s m below meth c D A hC ls hl hP hS
  obtain ⟨hx, hb, hr, hlocks, hml, hown, hts, hK, hN, hD, hA⟩ := id hC
  rw [← hav] at hl
  have hl : lv_has ls 7 [(0, .ref (ad 0)), (1, .int x1), (2, .int x2), (3, .int x3), (4, .int x4)] := hl
  unfold LT_line at hf
  have hw_60 : ∀ (x1 : Int32) (x2 : Int32) (x3 : Int32) (x4 : Int32) (x5 : Int32) (t0 : Int32) (σ : St) (H : Heap) (locs : List Loc) (ls : Array Slot), va_P D vwCl ((xw ad cI cJ) σ) H → va_S A s.heap H locs → lv_has ls 7 [(0, .ref (ad 0)), (1, .int x1), (2, .int x2), (3, .int x3), (4, .int x4), (5, .int x5)] → LT_line_60 N x1 x2 x3 x4 x5 t0 σ = some (r, τ) → W p l e (rm_LT_line) s m av.toArray below meth c H locs 0 0 (QI below av.toArray s D A (xw ad cI cJ) r τ) (F0 m 60 ls [.int t0]) := by
    intro x1 x2 x3 x4 x5 t0 σ H locs ls hP hS hl hf
    unfold LT_line_60 at hf
    refine lv_istore (lv' := [(6, .int t0), (0, .ref (ad 0)), (1, .int x1), (2, .int x2), (3, .int x3), (4, .int x4), (5, .int x5)]) hx hb dX7_line_60 hl (by decide) rfl (fun ls hl => ?_)
    refine lv_iload hx hb dX7_line_62 (lv_at hl 6 rfl) ?_
    refine lv_if_eq (tgt := 84) hx hb dX7_line_64 (by decide) (fun c1 => ?_) (fun c1 => ?_)
    · rw [if_pos c1] at hf
      refine lv_iconst (v := (-1)) hx hb dX7_line_84 (by decide) ?_
      obtain ⟨h1, h2⟩ := ret2 hf
      exact retI hx hb hr hlocks hP hS h1 h2 dX7_line_85
    rw [if_neg c1] at hf
    refine lv_iload hx hb dX7_line_67 (lv_at hl 0 rfl) ?_
    refine lv_if_eq (tgt := 84) hx hb dX7_line_69 (by decide) (fun c2 => ?_) (fun c2 => ?_)
    · rw [if_pos c2] at hf
      refine lv_iconst (v := (-1)) hx hb dX7_line_84 (by decide) ?_
      obtain ⟨h1, h2⟩ := ret2 hf
      exact retI hx hb hr hlocks hP hS h1 h2 dX7_line_85
    rw [if_neg c2] at hf
    refine lv_aload_n hx hb dX7_line_72 rfl (lv_at hl 1 rfl) ?_
    refine xg_0_0 hC hP tw_359 dX7_line_73 ?_
    refine xg_1_2 hC hP tw_72 dX7_line_76 ?_
    refine lv_bipush (v := 14) hx hb dX7_line_79 (by decide) ?_
    refine lv_icmp_lt (tgt := 86) hx hb dX7_line_81 (by decide) (fun c3 => ?_) (fun c3 => ?_)
    · rw [if_pos c3] at hf
      refine lv_aload_n hx hb dX7_line_86 rfl (lv_at hl 1 rfl) ?_
      refine xg_0_4 hC hP tw_363 dX7_line_87 ?_
      obtain ⟨σ4, eσ4, hf⟩ := lt_e hf
      refine cVv (As := []) (rest := []) hC (k_GT_forget l ad cI cJ cZ eσ4.symm) yy_X0_forget tw_355 rfl rfl ⟨by decide, by decide⟩ hP hS (q0 := 6) (ci := 0) rfl rfl (xwa_6 ..) rfl hl.1 rfl (Nat.le_of_ble_eq_true rfl) dX7_line_90 (fun H locs hP hS => ?_)
      refine lv_aload_n hx hb dX7_line_93 rfl (lv_at hl 1 rfl) ?_
      refine xg_0_0 hC hP tw_359 dX7_line_94 ?_
      refine lv_iload_n hx hb dX7_line_97 rfl (lv_at hl 2 rfl) ?_
      refine lv_iload_n hx hb dX7_line_98 rfl (lv_at hl 3 rfl) ?_
      refine lv_iload_n hx hb dX7_line_99 rfl (lv_at hl 4 rfl) ?_
      refine lv_iload hx hb dX7_line_100 (lv_at hl 5 rfl) ?_
      obtain ⟨y5, σ6, hcy5, hf⟩ := bnd2_some hf
      refine cVi (As := [.int x1, .int x2, .int x3, .int x4]) (rest := []) hC (k_Net_addLine l ad cI cJ cZ hcy5) yy_X2_addLine tw_393 rfl rfl ⟨by decide, by decide⟩ hP hS (q0 := 1) (ci := 2) rfl rfl (xwa_1 ..) rfl hl.1 rfl (Nat.le_of_ble_eq_true rfl) dX7_line_102 (fun H locs hP hS => ?_)
      obtain ⟨h1, h2⟩ := ret2 hf
      exact retI hx hb hr hlocks hP hS h1 h2 dX7_line_105
    rw [if_neg c3] at hf
    refine lv_iconst (v := (-1)) hx hb dX7_line_84 (by decide) ?_
    obtain ⟨h1, h2⟩ := ret2 hf
    exact retI hx hb hr hlocks hP hS h1 h2 dX7_line_85
  have hw_32 : ∀ (x1 : Int32) (x2 : Int32) (x3 : Int32) (x4 : Int32) (t0 : Int32) (σ : St) (H : Heap) (locs : List Loc) (ls : Array Slot), va_P D vwCl ((xw ad cI cJ) σ) H → va_S A s.heap H locs → lv_has ls 7 [(0, .ref (ad 0)), (1, .int x1), (2, .int x2), (3, .int x3), (4, .int x4)] → LT_line_32 N x1 x2 x3 x4 t0 σ = some (r, τ) → W p l e (rm_LT_line) s m av.toArray below meth c H locs 0 0 (QI below av.toArray s D A (xw ad cI cJ) r τ) (F0 m 32 ls [.int t0]) := by
    intro x1 x2 x3 x4 t0 σ H locs ls hP hS hl hf
    unfold LT_line_32 at hf
    refine lv_istore (lv' := [(5, .int t0), (0, .ref (ad 0)), (1, .int x1), (2, .int x2), (3, .int x3), (4, .int x4)]) hx hb dX7_line_32 hl (by decide) rfl (fun ls hl => ?_)
    refine lv_iload_n hx hb dX7_line_34 rfl (lv_at hl 4 rfl) ?_
    refine lv_iconst (v := 0) hx hb dX7_line_35 (by decide) ?_
    refine lv_sipush (v := 999) hx hb dX7_line_36 (by decide) ?_
    refine cSi (As := [.int x3, .int 0, .int 999]) (rest := []) hC (k_LT_within l (xw ad cI cJ) (xw_ok ad cI cJ) (ty3 cI cJ cZ) _ rfl) yy_X7_within tw_382 rfl rfl ⟨by decide, by decide⟩ hP hS rfl hl.1 rfl (Nat.le_of_ble_eq_true rfl) dX7_line_39 (fun H locs hP hS => ?_)
    refine lv_if_eq (tgt := 59) hx hb dX7_line_42 (by decide) (fun c7 => ?_) (fun c7 => ?_)
    · rw [if_pos c7] at hf
      refine lv_iconst (v := 0) hx hb dX7_line_59 (by decide) ?_
      exact hw_60 x1 x2 x3 x4 t0 0 σ H locs ls hP hS (lv_sub hl [1, 2, 3, 4, 5, 0] rfl) hf
    rw [if_neg c7] at hf
    refine lv_iload hx hb dX7_line_45 (lv_at hl 5 rfl) ?_
    refine lv_iconst (v := 0) hx hb dX7_line_47 (by decide) ?_
    refine lv_iconst (v := 1) hx hb dX7_line_48 (by decide) ?_
    refine cSi (As := [.int x4, .int 0, .int 1]) (rest := []) hC (k_LT_within l (xw ad cI cJ) (xw_ok ad cI cJ) (ty3 cI cJ cZ) _ rfl) yy_X7_within tw_382 rfl rfl ⟨by decide, by decide⟩ hP hS rfl hl.1 rfl (Nat.le_of_ble_eq_true rfl) dX7_line_49 (fun H locs hP hS => ?_)
    refine lv_if_eq (tgt := 59) hx hb dX7_line_52 (by decide) (fun c8 => ?_) (fun c8 => ?_)
    · rw [if_pos c8] at hf
      refine lv_iconst (v := 0) hx hb dX7_line_59 (by decide) ?_
      exact hw_60 x1 x2 x3 x4 t0 0 σ H locs ls hP hS (lv_sub hl [1, 2, 3, 4, 5, 0] rfl) hf
    rw [if_neg c8] at hf
    refine lv_iconst (v := 1) hx hb dX7_line_55 (by decide) ?_
    refine lv_goto (tgt := 60) hx hb dX7_line_56 (by decide) ?_
    exact hw_60 x1 x2 x3 x4 t0 1 σ H locs ls hP hS (lv_sub hl [1, 2, 3, 4, 5, 0] rfl) hf
  obtain ⟨H, hH⟩ : ∃ z, z = s.heap := ⟨_, rfl⟩
  obtain ⟨locs, hlocs⟩ : ∃ z : List Loc, z = [] := ⟨_, rfl⟩
  rw [← hH] at hP
  have hS : va_S A s.heap H locs := by rw [hH, hlocs]; exact va_S.rf
  suffices hgoal : W p l e _ s m _ below meth c H locs 0 0 _ _ by rw [hH, hlocs] at hgoal; exact hgoal
  refine lv_aload_n hx hb dX7_line_0 rfl (lv_at hl 0 rfl) ?_
  refine xg_0_0 hC hP tw_359 dX7_line_1 ?_
  refine lv_iload_n hx hb dX7_line_4 rfl (lv_at hl 1 rfl) ?_
  refine cVi (As := [.int x1]) (rest := []) hC (k_Net_hasPost l ad cI cJ cZ rfl) yy_X2_hasPost tw_389 rfl rfl ⟨by decide, by decide⟩ hP hS (q0 := 1) (ci := 2) rfl rfl (xwa_1 ..) rfl hl.1 rfl (Nat.le_of_ble_eq_true rfl) dX7_line_5 (fun H locs hP hS => ?_)
  refine lv_if_eq (tgt := 31) hx hb dX7_line_8 (by decide) (fun c9 => ?_) (fun c9 => ?_)
  · rw [if_pos c9] at hf
    refine lv_iconst (v := 0) hx hb dX7_line_31 (by decide) ?_
    exact hw_32 x1 x2 x3 x4 0 σ0 H locs ls hP hS (lv_sub hl [0, 1, 2, 3, 4] rfl) hf
  rw [if_neg c9] at hf
  refine lv_aload_n hx hb dX7_line_11 rfl (lv_at hl 0 rfl) ?_
  refine xg_0_0 hC hP tw_359 dX7_line_12 ?_
  refine lv_iload_n hx hb dX7_line_15 rfl (lv_at hl 2 rfl) ?_
  refine cVi (As := [.int x2]) (rest := []) hC (k_Net_hasPost l ad cI cJ cZ rfl) yy_X2_hasPost tw_389 rfl rfl ⟨by decide, by decide⟩ hP hS (q0 := 1) (ci := 2) rfl rfl (xwa_1 ..) rfl hl.1 rfl (Nat.le_of_ble_eq_true rfl) dX7_line_16 (fun H locs hP hS => ?_)
  refine lv_if_eq (tgt := 31) hx hb dX7_line_19 (by decide) (fun c10 => ?_) (fun c10 => ?_)
  · rw [if_pos c10] at hf
    refine lv_iconst (v := 0) hx hb dX7_line_31 (by decide) ?_
    exact hw_32 x1 x2 x3 x4 0 σ0 H locs ls hP hS (lv_sub hl [0, 1, 2, 3, 4] rfl) hf
  rw [if_neg c10] at hf
  refine lv_iload_n hx hb dX7_line_22 rfl (lv_at hl 1 rfl) ?_
  refine lv_iload_n hx hb dX7_line_23 rfl (lv_at hl 2 rfl) ?_
  refine lv_icmp_eq (tgt := 31) hx hb dX7_line_24 (by decide) (fun c11 => ?_) (fun c11 => ?_)
  · rw [if_pos c11] at hf
    refine lv_iconst (v := 0) hx hb dX7_line_31 (by decide) ?_
    exact hw_32 x1 x2 x3 x4 0 σ0 H locs ls hP hS (lv_sub hl [0, 1, 2, 3, 4] rfl) hf
  rw [if_neg c11] at hf
  refine lv_iconst (v := 1) hx hb dX7_line_27 (by decide) ?_
  refine lv_goto (tgt := 32) hx hb dX7_line_28 (by decide) ?_
  exact hw_32 x1 x2 x3 x4 1 σ0 H locs ls hP hS (lv_sub hl [0, 1, 2, 3, 4] rfl) hf
theorem dX7_cut_0 : decode cX7_cut 0 = .ok (.aload_n 0, 1) := by decide +kernel
theorem dX7_cut_1 : decode cX7_cut 1 = .ok (.getfield 12, 3) := by decide +kernel
theorem dX7_cut_4 : decode cX7_cut 4 = .ok (.iload_n 1, 1) := by decide +kernel
theorem dX7_cut_5 : decode cX7_cut 5 = .ok (.invokevirtual 80, 3) := by decide +kernel
theorem dX7_cut_8 : decode cX7_cut 8 = .ok (.ifCond .eq 15, 3) := by decide +kernel
theorem dX7_cut_11 : decode cX7_cut 11 = .ok (.aload_n 0, 1) := by decide +kernel
theorem dX7_cut_12 : decode cX7_cut 12 = .ok (.getfield 12, 3) := by decide +kernel
theorem dX7_cut_15 : decode cX7_cut 15 = .ok (.iload_n 1, 1) := by decide +kernel
theorem dX7_cut_16 : decode cX7_cut 16 = .ok (.invokevirtual 83, 3) := by decide +kernel
theorem dX7_cut_19 : decode cX7_cut 19 = .ok (.iload_n 2, 1) := by decide +kernel
theorem dX7_cut_20 : decode cX7_cut 20 = .ok (.if_icmp .ne 5, 3) := by decide +kernel
theorem dX7_cut_23 : decode cX7_cut 23 = .ok (.iconst 0, 1) := by decide +kernel
theorem dX7_cut_24 : decode cX7_cut 24 = .ok (.ireturn, 1) := by decide +kernel
theorem dX7_cut_25 : decode cX7_cut 25 = .ok (.aload_n 0, 1) := by decide +kernel
theorem dX7_cut_26 : decode cX7_cut 26 = .ok (.getfield 12, 3) := by decide +kernel
theorem dX7_cut_29 : decode cX7_cut 29 = .ok (.dup, 1) := by decide +kernel
theorem dX7_cut_30 : decode cX7_cut 30 = .ok (.getfield 86, 3) := by decide +kernel
theorem dX7_cut_33 : decode cX7_cut 33 = .ok (.iconst 1, 1) := by decide +kernel
theorem dX7_cut_34 : decode cX7_cut 34 = .ok (.iload_n 1, 1) := by decide +kernel
theorem dX7_cut_35 : decode cX7_cut 35 = .ok (.ishl, 1) := by decide +kernel
theorem dX7_cut_36 : decode cX7_cut 36 = .ok (.ixor, 1) := by decide +kernel
theorem dX7_cut_37 : decode cX7_cut 37 = .ok (.putfield 86, 3) := by decide +kernel
theorem dX7_cut_40 : decode cX7_cut 40 = .ok (.aload_n 0, 1) := by decide +kernel
theorem dX7_cut_41 : decode cX7_cut 41 = .ok (.getfield 44, 3) := by decide +kernel
theorem dX7_cut_44 : decode cX7_cut 44 = .ok (.invokevirtual 73, 3) := by decide +kernel
theorem dX7_cut_47 : decode cX7_cut 47 = .ok (.iconst 1, 1) := by decide +kernel
theorem dX7_cut_48 : decode cX7_cut 48 = .ok (.ireturn, 1) := by decide +kernel
def LT_cut (x1 : Int32) (x2 : Int32) (σ0 : St) : (Int32 × St) := if (Net_hasLine x1 σ0) = 0 then (0, σ0) else if (Net_isCut x1 σ0) = x2 then (0, σ0) else lt (si σ0 4 ((σ0.1 4) ^^^ ((1 : Int32) <<< (x1 &&& 31)))) (fun σ3 => lt (GT_forget σ3) (fun σ4 => (1, σ4)))
abbrev rm_LT_cut : Room := { frames := 1, cells := 0, slots := 0, locals := 21 }
set_option maxHeartbeats 4000000 in
set_option maxRecDepth 100000 in
theorem k_LT_cut (l : Launch) (ad : Nat → Nat) (cI cJ cZ : ClassId) {x1 : Int32} {x2 : Int32} {σ0 : St} {r : Int32} {τ : St} (hf : LT_cut x1 x2 σ0 = (r, τ)) : CtI l yX7_cut (gws (.code yX7_cut cX7_cut 3 (some .boolean))) (rm_LT_cut) (ty3 cI cJ cZ) (xw ad cI cJ) [.ref (ad 0), .int x1, .int x2] σ0 r τ := by
  refine CtI.of (by decide) (xw_ok ad cI cJ) (Nat.le_of_ble_eq_true rfl) ?_
  generalize hav : ([.ref (ad 0), .int x1, .int x2] : List Value) = av
  intro p e s m below meth c D A hC ls hl hP hS
  obtain ⟨hx, hb, hr, hlocks, hml, hown, hts, hK, hN, hD, hA⟩ := id hC
  rw [← hav] at hl
  have hl : lv_has ls 3 [(0, .ref (ad 0)), (1, .int x1), (2, .int x2)] := hl
  unfold LT_cut at hf
  obtain ⟨H, hH⟩ : ∃ z, z = s.heap := ⟨_, rfl⟩
  obtain ⟨locs, hlocs⟩ : ∃ z : List Loc, z = [] := ⟨_, rfl⟩
  rw [← hH] at hP
  have hS : va_S A s.heap H locs := by rw [hH, hlocs]; exact va_S.rf
  suffices hgoal : W p l e _ s m _ below meth c H locs 0 0 _ _ by rw [hH, hlocs] at hgoal; exact hgoal
  refine lv_aload_n hx hb dX7_cut_0 rfl (lv_at hl 0 rfl) ?_
  refine xg_0_0 hC hP tw_359 dX7_cut_1 ?_
  refine lv_iload_n hx hb dX7_cut_4 rfl (lv_at hl 1 rfl) ?_
  refine cVi (As := [.int x1]) (rest := []) hC (k_Net_hasLine l ad cI cJ cZ rfl) yy_X2_hasLine tw_401 rfl rfl ⟨by decide, by decide⟩ hP hS (q0 := 1) (ci := 2) rfl rfl (xwa_1 ..) rfl hl.1 rfl (Nat.le_of_ble_eq_true rfl) dX7_cut_5 (fun H locs hP hS => ?_)
  refine lv_if_eq (tgt := 23) hx hb dX7_cut_8 (by decide) (fun c1 => ?_) (fun c1 => ?_)
  · rw [if_pos c1] at hf
    refine lv_iconst (v := 0) hx hb dX7_cut_23 (by decide) ?_
    obtain ⟨h1, h2⟩ := ret2t hf
    exact retZ hx hb hr hlocks hP hS (Or.inl rfl) h1 h2 dX7_cut_24
  rw [if_neg c1] at hf
  refine lv_aload_n hx hb dX7_cut_11 rfl (lv_at hl 0 rfl) ?_
  refine xg_0_0 hC hP tw_359 dX7_cut_12 ?_
  refine lv_iload_n hx hb dX7_cut_15 rfl (lv_at hl 1 rfl) ?_
  refine cVi (As := [.int x1]) (rest := []) hC (k_Net_isCut l ad cI cJ cZ rfl) yy_X2_isCut tw_405 rfl rfl ⟨by decide, by decide⟩ hP hS (q0 := 1) (ci := 2) rfl rfl (xwa_1 ..) rfl hl.1 rfl (Nat.le_of_ble_eq_true rfl) dX7_cut_16 (fun H locs hP hS => ?_)
  refine lv_iload_n hx hb dX7_cut_19 rfl (lv_at hl 2 rfl) ?_
  refine lv_icmp_ne (tgt := 25) hx hb dX7_cut_20 (by decide) (fun c2 => ?_) (fun c2 => ?_)
  · rw [if_neg c2] at hf
    refine lv_aload_n hx hb dX7_cut_25 rfl (lv_at hl 0 rfl) ?_
    refine xg_0_0 hC hP tw_359 dX7_cut_26 ?_
    refine lv_dup hx hb dX7_cut_29 rfl ?_
    refine xg_1_4 hC hP tw_78 dX7_cut_30 ?_
    refine lv_iconst (v := 1) hx hb dX7_cut_33 (by decide) ?_
    refine lv_iload_n hx hb dX7_cut_34 rfl (lv_at hl 1 rfl) ?_
    refine lv_ishl hx hb dX7_cut_35 ?_
    refine lv_ixor hx hb dX7_cut_36 ?_
    refine xp_1_4 hC hP hS tw_78 dX7_cut_37 (fun H locs hP hS => ?_)
    obtain ⟨σ3, eσ3, hf⟩ := lt_e hf
    rw [← eσ3] at hP
    refine lv_aload_n hx hb dX7_cut_40 rfl (lv_at hl 0 rfl) ?_
    refine xg_0_4 hC hP tw_363 dX7_cut_41 ?_
    obtain ⟨σ4, eσ4, hf⟩ := lt_e hf
    refine cVv (As := []) (rest := []) hC (k_GT_forget l ad cI cJ cZ eσ4.symm) yy_X0_forget tw_355 rfl rfl ⟨by decide, by decide⟩ hP hS (q0 := 6) (ci := 0) rfl rfl (xwa_6 ..) rfl hl.1 rfl (Nat.le_of_ble_eq_true rfl) dX7_cut_44 (fun H locs hP hS => ?_)
    refine lv_iconst (v := 1) hx hb dX7_cut_47 (by decide) ?_
    obtain ⟨h1, h2⟩ := ret2t hf
    exact retZ hx hb hr hlocks hP hS (Or.inr rfl) h1 h2 dX7_cut_48
  rw [if_pos c2] at hf
  refine lv_iconst (v := 0) hx hb dX7_cut_23 (by decide) ?_
  obtain ⟨h1, h2⟩ := ret2t hf
  exact retZ hx hb hr hlocks hP hS (Or.inl rfl) h1 h2 dX7_cut_24
theorem dX7_price_0 : decode cX7_price 0 = .ok (.aload_n 0, 1) := by decide +kernel
theorem dX7_price_1 : decode cX7_price 1 = .ok (.getfield 12, 3) := by decide +kernel
theorem dX7_price_4 : decode cX7_price 4 = .ok (.iload_n 1, 1) := by decide +kernel
theorem dX7_price_5 : decode cX7_price 5 = .ok (.invokevirtual 80, 3) := by decide +kernel
theorem dX7_price_8 : decode cX7_price 8 = .ok (.ifCond .eq 14, 3) := by decide +kernel
theorem dX7_price_11 : decode cX7_price 11 = .ok (.iload_n 2, 1) := by decide +kernel
theorem dX7_price_12 : decode cX7_price 12 = .ok (.iconst 0, 1) := by decide +kernel
theorem dX7_price_13 : decode cX7_price 13 = .ok (.sipush 999, 3) := by decide +kernel
theorem dX7_price_16 : decode cX7_price 16 = .ok (.invokestatic 61, 3) := by decide +kernel
theorem dX7_price_19 : decode cX7_price 19 = .ok (.ifCond .ne 5, 3) := by decide +kernel
theorem dX7_price_22 : decode cX7_price 22 = .ok (.iconst 0, 1) := by decide +kernel
theorem dX7_price_23 : decode cX7_price 23 = .ok (.ireturn, 1) := by decide +kernel
theorem dX7_price_24 : decode cX7_price 24 = .ok (.aload_n 0, 1) := by decide +kernel
theorem dX7_price_25 : decode cX7_price 25 = .ok (.getfield 12, 3) := by decide +kernel
theorem dX7_price_28 : decode cX7_price 28 = .ok (.getfield 89, 3) := by decide +kernel
theorem dX7_price_31 : decode cX7_price 31 = .ok (.iload_n 1, 1) := by decide +kernel
theorem dX7_price_32 : decode cX7_price 32 = .ok (.iload_n 2, 1) := by decide +kernel
theorem dX7_price_33 : decode cX7_price 33 = .ok (.iastore, 1) := by decide +kernel
theorem dX7_price_34 : decode cX7_price 34 = .ok (.aload_n 0, 1) := by decide +kernel
theorem dX7_price_35 : decode cX7_price 35 = .ok (.invokevirtual 93, 3) := by decide +kernel
theorem dX7_price_38 : decode cX7_price 38 = .ok (.iconst 1, 1) := by decide +kernel
theorem dX7_price_39 : decode cX7_price 39 = .ok (.ireturn, 1) := by decide +kernel
def LT_price (N : Nat) (x1 : Int32) (x2 : Int32) (σ0 : St) : Option (Int32 × St) := if (Net_hasLine x1 σ0) = 0 then some (0, σ0) else if (LT_within x2 0 999) = 0 then some (0, σ0) else grd (inb x1 14) (lt (sa σ0 4 (x1).toNatClampNeg x2) (fun σ4 => lt (LT_forgetMeasures σ4) (fun σ5 => some (1, σ5))))
abbrev rm_LT_price : Room := { frames := 2, cells := 0, slots := 0, locals := 40 }
set_option maxHeartbeats 4000000 in
set_option maxRecDepth 100000 in
theorem k_LT_price (l : Launch) (ad : Nat → Nat) (cI cJ cZ : ClassId) {N : Nat} {x1 : Int32} {x2 : Int32} {σ0 : St} {r : Int32} {τ : St} (hf : LT_price N x1 x2 σ0 = some (r, τ)) : CtI l yX7_price (gws (.code yX7_price cX7_price 3 (some .boolean))) (rm_LT_price) (ty3 cI cJ cZ) (xw ad cI cJ) [.ref (ad 0), .int x1, .int x2] σ0 r τ := by
  refine CtI.of (by decide) (xw_ok ad cI cJ) (Nat.le_of_ble_eq_true rfl) ?_
  generalize hav : ([.ref (ad 0), .int x1, .int x2] : List Value) = av
  intro p e s m below meth c D A hC ls hl hP hS
  obtain ⟨hx, hb, hr, hlocks, hml, hown, hts, hK, hN, hD, hA⟩ := id hC
  rw [← hav] at hl
  have hl : lv_has ls 3 [(0, .ref (ad 0)), (1, .int x1), (2, .int x2)] := hl
  unfold LT_price at hf
  obtain ⟨H, hH⟩ : ∃ z, z = s.heap := ⟨_, rfl⟩
  obtain ⟨locs, hlocs⟩ : ∃ z : List Loc, z = [] := ⟨_, rfl⟩
  rw [← hH] at hP
  have hS : va_S A s.heap H locs := by rw [hH, hlocs]; exact va_S.rf
  suffices hgoal : W p l e _ s m _ below meth c H locs 0 0 _ _ by rw [hH, hlocs] at hgoal; exact hgoal
  refine lv_aload_n hx hb dX7_price_0 rfl (lv_at hl 0 rfl) ?_
  refine xg_0_0 hC hP tw_359 dX7_price_1 ?_
  refine lv_iload_n hx hb dX7_price_4 rfl (lv_at hl 1 rfl) ?_
  refine cVi (As := [.int x1]) (rest := []) hC (k_Net_hasLine l ad cI cJ cZ rfl) yy_X2_hasLine tw_401 rfl rfl ⟨by decide, by decide⟩ hP hS (q0 := 1) (ci := 2) rfl rfl (xwa_1 ..) rfl hl.1 rfl (Nat.le_of_ble_eq_true rfl) dX7_price_5 (fun H locs hP hS => ?_)
  refine lv_if_eq (tgt := 22) hx hb dX7_price_8 (by decide) (fun c1 => ?_) (fun c1 => ?_)
  · rw [if_pos c1] at hf
    refine lv_iconst (v := 0) hx hb dX7_price_22 (by decide) ?_
    obtain ⟨h1, h2⟩ := ret2 hf
    exact retZ hx hb hr hlocks hP hS (Or.inl rfl) h1 h2 dX7_price_23
  rw [if_neg c1] at hf
  refine lv_iload_n hx hb dX7_price_11 rfl (lv_at hl 2 rfl) ?_
  refine lv_iconst (v := 0) hx hb dX7_price_12 (by decide) ?_
  refine lv_sipush (v := 999) hx hb dX7_price_13 (by decide) ?_
  refine cSi (As := [.int x2, .int 0, .int 999]) (rest := []) hC (k_LT_within l (xw ad cI cJ) (xw_ok ad cI cJ) (ty3 cI cJ cZ) _ rfl) yy_X7_within tw_382 rfl rfl ⟨by decide, by decide⟩ hP hS rfl hl.1 rfl (Nat.le_of_ble_eq_true rfl) dX7_price_16 (fun H locs hP hS => ?_)
  refine lv_if_ne (tgt := 24) hx hb dX7_price_19 (by decide) (fun c2 => ?_) (fun c2 => ?_)
  · rw [if_neg c2] at hf
    refine lv_aload_n hx hb dX7_price_24 rfl (lv_at hl 0 rfl) ?_
    refine xg_0_0 hC hP tw_359 dX7_price_25 ?_
    refine xg_1_9 hC hP tw_95 dX7_price_28 ?_
    refine lv_iload_n hx hb dX7_price_31 rfl (lv_at hl 1 rfl) ?_
    refine lv_iload_n hx hb dX7_price_32 rfl (lv_at hl 2 rfl) ?_
    obtain ⟨g3, hf⟩ := grd_some hf
    refine xs_13 hC hP hS g3 dX7_price_33 (fun H locs hP hS => ?_)
    obtain ⟨σ4, eσ4, hf⟩ := lt_e hf
    rw [← eσ4] at hP
    refine lv_aload_n hx hb dX7_price_34 rfl (lv_at hl 0 rfl) ?_
    obtain ⟨σ5, eσ5, hf⟩ := lt_e hf
    refine cVv (As := []) (rest := []) hC (k_LT_forgetMeasures l ad cI cJ cZ eσ5.symm) yy_X7_forgetMeasures tw_413 rfl rfl ⟨by decide, by decide⟩ hP hS (q0 := 0) (ci := 7) rfl rfl (xwa_0 ..) rfl hl.1 rfl (Nat.le_of_ble_eq_true rfl) dX7_price_35 (fun H locs hP hS => ?_)
    refine lv_iconst (v := 1) hx hb dX7_price_38 (by decide) ?_
    obtain ⟨h1, h2⟩ := ret2 hf
    exact retZ hx hb hr hlocks hP hS (Or.inr rfl) h1 h2 dX7_price_39
  rw [if_pos c2] at hf
  refine lv_iconst (v := 0) hx hb dX7_price_22 (by decide) ?_
  obtain ⟨h1, h2⟩ := ret2 hf
  exact retZ hx hb hr hlocks hP hS (Or.inl rfl) h1 h2 dX7_price_23
theorem dX7_degree_0 : decode cX7_degree 0 = .ok (.aload_n 0, 1) := by decide +kernel
theorem dX7_degree_1 : decode cX7_degree 1 = .ok (.getfield 12, 3) := by decide +kernel
theorem dX7_degree_4 : decode cX7_degree 4 = .ok (.iload_n 1, 1) := by decide +kernel
theorem dX7_degree_5 : decode cX7_degree 5 = .ok (.invokevirtual 65, 3) := by decide +kernel
theorem dX7_degree_8 : decode cX7_degree 8 = .ok (.ifCond .eq 13, 3) := by decide +kernel
theorem dX7_degree_11 : decode cX7_degree 11 = .ok (.iload_n 2, 1) := by decide +kernel
theorem dX7_degree_12 : decode cX7_degree 12 = .ok (.iconst 0, 1) := by decide +kernel
theorem dX7_degree_13 : decode cX7_degree 13 = .ok (.bipush 14, 2) := by decide +kernel
theorem dX7_degree_15 : decode cX7_degree 15 = .ok (.invokestatic 61, 3) := by decide +kernel
theorem dX7_degree_18 : decode cX7_degree 18 = .ok (.ifCond .ne 5, 3) := by decide +kernel
theorem dX7_degree_21 : decode cX7_degree 21 = .ok (.iconst 0, 1) := by decide +kernel
theorem dX7_degree_22 : decode cX7_degree 22 = .ok (.ireturn, 1) := by decide +kernel
theorem dX7_degree_23 : decode cX7_degree 23 = .ok (.aload_n 0, 1) := by decide +kernel
theorem dX7_degree_24 : decode cX7_degree 24 = .ok (.getfield 19, 3) := by decide +kernel
theorem dX7_degree_27 : decode cX7_degree 27 = .ok (.iload_n 1, 1) := by decide +kernel
theorem dX7_degree_28 : decode cX7_degree 28 = .ok (.iload_n 2, 1) := by decide +kernel
theorem dX7_degree_29 : decode cX7_degree 29 = .ok (.invokevirtual 96, 3) := by decide +kernel
theorem dX7_degree_32 : decode cX7_degree 32 = .ok (.aload_n 0, 1) := by decide +kernel
theorem dX7_degree_33 : decode cX7_degree 33 = .ok (.getfield 44, 3) := by decide +kernel
theorem dX7_degree_36 : decode cX7_degree 36 = .ok (.invokevirtual 73, 3) := by decide +kernel
theorem dX7_degree_39 : decode cX7_degree 39 = .ok (.iconst 1, 1) := by decide +kernel
theorem dX7_degree_40 : decode cX7_degree 40 = .ok (.ireturn, 1) := by decide +kernel
def LT_degree (N : Nat) (x1 : Int32) (x2 : Int32) (σ0 : St) : Option (Int32 × St) := if (Net_hasPost x1 σ0) = 0 then some (0, σ0) else if (LT_within x2 0 14) = 0 then some (0, σ0) else bnd (Lim_setDegree N x1 x2 σ0) (fun σ3 => lt (GT_forget σ3) (fun σ4 => some (1, σ4)))
abbrev rm_LT_degree : Room := { frames := 1, cells := 0, slots := 0, locals := 22 }
set_option maxHeartbeats 4000000 in
set_option maxRecDepth 100000 in
theorem k_LT_degree (l : Launch) (ad : Nat → Nat) (cI cJ cZ : ClassId) {N : Nat} {x1 : Int32} {x2 : Int32} {σ0 : St} {r : Int32} {τ : St} (hf : LT_degree N x1 x2 σ0 = some (r, τ)) : CtI l yX7_degree (gws (.code yX7_degree cX7_degree 3 (some .boolean))) (rm_LT_degree) (ty3 cI cJ cZ) (xw ad cI cJ) [.ref (ad 0), .int x1, .int x2] σ0 r τ := by
  refine CtI.of (by decide) (xw_ok ad cI cJ) (Nat.le_of_ble_eq_true rfl) ?_
  generalize hav : ([.ref (ad 0), .int x1, .int x2] : List Value) = av
  intro p e s m below meth c D A hC ls hl hP hS
  obtain ⟨hx, hb, hr, hlocks, hml, hown, hts, hK, hN, hD, hA⟩ := id hC
  rw [← hav] at hl
  have hl : lv_has ls 3 [(0, .ref (ad 0)), (1, .int x1), (2, .int x2)] := hl
  unfold LT_degree at hf
  obtain ⟨H, hH⟩ : ∃ z, z = s.heap := ⟨_, rfl⟩
  obtain ⟨locs, hlocs⟩ : ∃ z : List Loc, z = [] := ⟨_, rfl⟩
  rw [← hH] at hP
  have hS : va_S A s.heap H locs := by rw [hH, hlocs]; exact va_S.rf
  suffices hgoal : W p l e _ s m _ below meth c H locs 0 0 _ _ by rw [hH, hlocs] at hgoal; exact hgoal
  refine lv_aload_n hx hb dX7_degree_0 rfl (lv_at hl 0 rfl) ?_
  refine xg_0_0 hC hP tw_359 dX7_degree_1 ?_
  refine lv_iload_n hx hb dX7_degree_4 rfl (lv_at hl 1 rfl) ?_
  refine cVi (As := [.int x1]) (rest := []) hC (k_Net_hasPost l ad cI cJ cZ rfl) yy_X2_hasPost tw_389 rfl rfl ⟨by decide, by decide⟩ hP hS (q0 := 1) (ci := 2) rfl rfl (xwa_1 ..) rfl hl.1 rfl (Nat.le_of_ble_eq_true rfl) dX7_degree_5 (fun H locs hP hS => ?_)
  refine lv_if_eq (tgt := 21) hx hb dX7_degree_8 (by decide) (fun c1 => ?_) (fun c1 => ?_)
  · rw [if_pos c1] at hf
    refine lv_iconst (v := 0) hx hb dX7_degree_21 (by decide) ?_
    obtain ⟨h1, h2⟩ := ret2 hf
    exact retZ hx hb hr hlocks hP hS (Or.inl rfl) h1 h2 dX7_degree_22
  rw [if_neg c1] at hf
  refine lv_iload_n hx hb dX7_degree_11 rfl (lv_at hl 2 rfl) ?_
  refine lv_iconst (v := 0) hx hb dX7_degree_12 (by decide) ?_
  refine lv_bipush (v := 14) hx hb dX7_degree_13 (by decide) ?_
  refine cSi (As := [.int x2, .int 0, .int 14]) (rest := []) hC (k_LT_within l (xw ad cI cJ) (xw_ok ad cI cJ) (ty3 cI cJ cZ) _ rfl) yy_X7_within tw_382 rfl rfl ⟨by decide, by decide⟩ hP hS rfl hl.1 rfl (Nat.le_of_ble_eq_true rfl) dX7_degree_15 (fun H locs hP hS => ?_)
  refine lv_if_ne (tgt := 23) hx hb dX7_degree_18 (by decide) (fun c2 => ?_) (fun c2 => ?_)
  · rw [if_neg c2] at hf
    refine lv_aload_n hx hb dX7_degree_23 rfl (lv_at hl 0 rfl) ?_
    refine xg_0_1 hC hP tw_360 dX7_degree_24 ?_
    refine lv_iload_n hx hb dX7_degree_27 rfl (lv_at hl 1 rfl) ?_
    refine lv_iload_n hx hb dX7_degree_28 rfl (lv_at hl 2 rfl) ?_
    obtain ⟨σ3, hcσ3, hf⟩ := bnd_some hf
    refine cVv (As := [.int x1, .int x2]) (rest := []) hC (k_Lim_setDegree l ad cI cJ cZ hcσ3) yy_X1_setDegree tw_425 rfl rfl ⟨by decide, by decide⟩ hP hS (q0 := 2) (ci := 1) rfl rfl (xwa_2 ..) rfl hl.1 rfl (Nat.le_of_ble_eq_true rfl) dX7_degree_29 (fun H locs hP hS => ?_)
    refine lv_aload_n hx hb dX7_degree_32 rfl (lv_at hl 0 rfl) ?_
    refine xg_0_4 hC hP tw_363 dX7_degree_33 ?_
    obtain ⟨σ4, eσ4, hf⟩ := lt_e hf
    refine cVv (As := []) (rest := []) hC (k_GT_forget l ad cI cJ cZ eσ4.symm) yy_X0_forget tw_355 rfl rfl ⟨by decide, by decide⟩ hP hS (q0 := 6) (ci := 0) rfl rfl (xwa_6 ..) rfl hl.1 rfl (Nat.le_of_ble_eq_true rfl) dX7_degree_36 (fun H locs hP hS => ?_)
    refine lv_iconst (v := 1) hx hb dX7_degree_39 (by decide) ?_
    obtain ⟨h1, h2⟩ := ret2 hf
    exact retZ hx hb hr hlocks hP hS (Or.inr rfl) h1 h2 dX7_degree_40
  rw [if_pos c2] at hf
  refine lv_iconst (v := 0) hx hb dX7_degree_21 (by decide) ?_
  obtain ⟨h1, h2⟩ := ret2 hf
  exact retZ hx hb hr hlocks hP hS (Or.inl rfl) h1 h2 dX7_degree_22
theorem dX7_depth_0 : decode cX7_depth 0 = .ok (.iload_n 1, 1) := by decide +kernel
theorem dX7_depth_1 : decode cX7_depth 1 = .ok (.iconst 0, 1) := by decide +kernel
theorem dX7_depth_2 : decode cX7_depth 2 = .ok (.bipush 7, 2) := by decide +kernel
theorem dX7_depth_4 : decode cX7_depth 4 = .ok (.invokestatic 61, 3) := by decide +kernel
theorem dX7_depth_7 : decode cX7_depth 7 = .ok (.ifCond .ne 5, 3) := by decide +kernel
theorem dX7_depth_10 : decode cX7_depth 10 = .ok (.iconst 0, 1) := by decide +kernel
theorem dX7_depth_11 : decode cX7_depth 11 = .ok (.ireturn, 1) := by decide +kernel
theorem dX7_depth_12 : decode cX7_depth 12 = .ok (.aload_n 0, 1) := by decide +kernel
theorem dX7_depth_13 : decode cX7_depth 13 = .ok (.getfield 19, 3) := by decide +kernel
theorem dX7_depth_16 : decode cX7_depth 16 = .ok (.iload_n 1, 1) := by decide +kernel
theorem dX7_depth_17 : decode cX7_depth 17 = .ok (.putfield 100, 3) := by decide +kernel
theorem dX7_depth_20 : decode cX7_depth 20 = .ok (.aload_n 0, 1) := by decide +kernel
theorem dX7_depth_21 : decode cX7_depth 21 = .ok (.getfield 44, 3) := by decide +kernel
theorem dX7_depth_24 : decode cX7_depth 24 = .ok (.invokevirtual 73, 3) := by decide +kernel
theorem dX7_depth_27 : decode cX7_depth 27 = .ok (.iconst 1, 1) := by decide +kernel
theorem dX7_depth_28 : decode cX7_depth 28 = .ok (.ireturn, 1) := by decide +kernel
def LT_depth (x1 : Int32) (σ0 : St) : (Int32 × St) := if (LT_within x1 0 7) = 0 then (0, σ0) else lt (si σ0 5 x1) (fun σ2 => lt (GT_forget σ2) (fun σ3 => (1, σ3)))
abbrev rm_LT_depth : Room := { frames := 1, cells := 0, slots := 0, locals := 22 }
set_option maxHeartbeats 4000000 in
set_option maxRecDepth 100000 in
theorem k_LT_depth (l : Launch) (ad : Nat → Nat) (cI cJ cZ : ClassId) {x1 : Int32} {σ0 : St} {r : Int32} {τ : St} (hf : LT_depth x1 σ0 = (r, τ)) : CtI l yX7_depth (gws (.code yX7_depth cX7_depth 2 (some .boolean))) (rm_LT_depth) (ty3 cI cJ cZ) (xw ad cI cJ) [.ref (ad 0), .int x1] σ0 r τ := by
  refine CtI.of (by decide) (xw_ok ad cI cJ) (Nat.le_of_ble_eq_true rfl) ?_
  generalize hav : ([.ref (ad 0), .int x1] : List Value) = av
  intro p e s m below meth c D A hC ls hl hP hS
  obtain ⟨hx, hb, hr, hlocks, hml, hown, hts, hK, hN, hD, hA⟩ := id hC
  rw [← hav] at hl
  have hl : lv_has ls 2 [(0, .ref (ad 0)), (1, .int x1)] := hl
  unfold LT_depth at hf
  obtain ⟨H, hH⟩ : ∃ z, z = s.heap := ⟨_, rfl⟩
  obtain ⟨locs, hlocs⟩ : ∃ z : List Loc, z = [] := ⟨_, rfl⟩
  rw [← hH] at hP
  have hS : va_S A s.heap H locs := by rw [hH, hlocs]; exact va_S.rf
  suffices hgoal : W p l e _ s m _ below meth c H locs 0 0 _ _ by rw [hH, hlocs] at hgoal; exact hgoal
  refine lv_iload_n hx hb dX7_depth_0 rfl (lv_at hl 1 rfl) ?_
  refine lv_iconst (v := 0) hx hb dX7_depth_1 (by decide) ?_
  refine lv_bipush (v := 7) hx hb dX7_depth_2 (by decide) ?_
  refine cSi (As := [.int x1, .int 0, .int 7]) (rest := []) hC (k_LT_within l (xw ad cI cJ) (xw_ok ad cI cJ) (ty3 cI cJ cZ) _ rfl) yy_X7_within tw_382 rfl rfl ⟨by decide, by decide⟩ hP hS rfl hl.1 rfl (Nat.le_of_ble_eq_true rfl) dX7_depth_4 (fun H locs hP hS => ?_)
  refine lv_if_ne (tgt := 12) hx hb dX7_depth_7 (by decide) (fun c1 => ?_) (fun c1 => ?_)
  · rw [if_neg c1] at hf
    refine lv_aload_n hx hb dX7_depth_12 rfl (lv_at hl 0 rfl) ?_
    refine xg_0_1 hC hP tw_360 dX7_depth_13 ?_
    refine lv_iload_n hx hb dX7_depth_16 rfl (lv_at hl 1 rfl) ?_
    refine xp_2_1 hC hP hS tw_127 dX7_depth_17 (fun H locs hP hS => ?_)
    obtain ⟨σ2, eσ2, hf⟩ := lt_e hf
    rw [← eσ2] at hP
    refine lv_aload_n hx hb dX7_depth_20 rfl (lv_at hl 0 rfl) ?_
    refine xg_0_4 hC hP tw_363 dX7_depth_21 ?_
    obtain ⟨σ3, eσ3, hf⟩ := lt_e hf
    refine cVv (As := []) (rest := []) hC (k_GT_forget l ad cI cJ cZ eσ3.symm) yy_X0_forget tw_355 rfl rfl ⟨by decide, by decide⟩ hP hS (q0 := 6) (ci := 0) rfl rfl (xwa_6 ..) rfl hl.1 rfl (Nat.le_of_ble_eq_true rfl) dX7_depth_24 (fun H locs hP hS => ?_)
    refine lv_iconst (v := 1) hx hb dX7_depth_27 (by decide) ?_
    obtain ⟨h1, h2⟩ := ret2t hf
    exact retZ hx hb hr hlocks hP hS (Or.inr rfl) h1 h2 dX7_depth_28
  rw [if_pos c1] at hf
  refine lv_iconst (v := 0) hx hb dX7_depth_10 (by decide) ?_
  obtain ⟨h1, h2⟩ := ret2t hf
  exact retZ hx hb hr hlocks hP hS (Or.inl rfl) h1 h2 dX7_depth_11
theorem dX7_root_0 : decode cX7_root 0 = .ok (.aload_n 0, 1) := by decide +kernel
theorem dX7_root_1 : decode cX7_root 1 = .ok (.getfield 12, 3) := by decide +kernel
theorem dX7_root_4 : decode cX7_root 4 = .ok (.iload_n 1, 1) := by decide +kernel
theorem dX7_root_5 : decode cX7_root 5 = .ok (.invokevirtual 65, 3) := by decide +kernel
theorem dX7_root_8 : decode cX7_root 8 = .ok (.ifCond .ne 5, 3) := by decide +kernel
theorem dX7_root_11 : decode cX7_root 11 = .ok (.iconst 0, 1) := by decide +kernel
theorem dX7_root_12 : decode cX7_root 12 = .ok (.ireturn, 1) := by decide +kernel
theorem dX7_root_13 : decode cX7_root 13 = .ok (.aload_n 0, 1) := by decide +kernel
theorem dX7_root_14 : decode cX7_root 14 = .ok (.getfield 12, 3) := by decide +kernel
theorem dX7_root_17 : decode cX7_root 17 = .ok (.iload_n 1, 1) := by decide +kernel
theorem dX7_root_18 : decode cX7_root 18 = .ok (.putfield 103, 3) := by decide +kernel
theorem dX7_root_21 : decode cX7_root 21 = .ok (.aload_n 0, 1) := by decide +kernel
theorem dX7_root_22 : decode cX7_root 22 = .ok (.invokevirtual 93, 3) := by decide +kernel
theorem dX7_root_25 : decode cX7_root 25 = .ok (.iconst 1, 1) := by decide +kernel
theorem dX7_root_26 : decode cX7_root 26 = .ok (.ireturn, 1) := by decide +kernel
def LT_root (x1 : Int32) (σ0 : St) : (Int32 × St) := if (Net_hasPost x1 σ0) = 0 then (0, σ0) else lt (si σ0 1 x1) (fun σ2 => lt (LT_forgetMeasures σ2) (fun σ3 => (1, σ3)))
abbrev rm_LT_root : Room := { frames := 2, cells := 0, slots := 0, locals := 40 }
set_option maxHeartbeats 4000000 in
set_option maxRecDepth 100000 in
theorem k_LT_root (l : Launch) (ad : Nat → Nat) (cI cJ cZ : ClassId) {x1 : Int32} {σ0 : St} {r : Int32} {τ : St} (hf : LT_root x1 σ0 = (r, τ)) : CtI l yX7_root (gws (.code yX7_root cX7_root 2 (some .boolean))) (rm_LT_root) (ty3 cI cJ cZ) (xw ad cI cJ) [.ref (ad 0), .int x1] σ0 r τ := by
  refine CtI.of (by decide) (xw_ok ad cI cJ) (Nat.le_of_ble_eq_true rfl) ?_
  generalize hav : ([.ref (ad 0), .int x1] : List Value) = av
  intro p e s m below meth c D A hC ls hl hP hS
  obtain ⟨hx, hb, hr, hlocks, hml, hown, hts, hK, hN, hD, hA⟩ := id hC
  rw [← hav] at hl
  have hl : lv_has ls 2 [(0, .ref (ad 0)), (1, .int x1)] := hl
  unfold LT_root at hf
  obtain ⟨H, hH⟩ : ∃ z, z = s.heap := ⟨_, rfl⟩
  obtain ⟨locs, hlocs⟩ : ∃ z : List Loc, z = [] := ⟨_, rfl⟩
  rw [← hH] at hP
  have hS : va_S A s.heap H locs := by rw [hH, hlocs]; exact va_S.rf
  suffices hgoal : W p l e _ s m _ below meth c H locs 0 0 _ _ by rw [hH, hlocs] at hgoal; exact hgoal
  refine lv_aload_n hx hb dX7_root_0 rfl (lv_at hl 0 rfl) ?_
  refine xg_0_0 hC hP tw_359 dX7_root_1 ?_
  refine lv_iload_n hx hb dX7_root_4 rfl (lv_at hl 1 rfl) ?_
  refine cVi (As := [.int x1]) (rest := []) hC (k_Net_hasPost l ad cI cJ cZ rfl) yy_X2_hasPost tw_389 rfl rfl ⟨by decide, by decide⟩ hP hS (q0 := 1) (ci := 2) rfl rfl (xwa_1 ..) rfl hl.1 rfl (Nat.le_of_ble_eq_true rfl) dX7_root_5 (fun H locs hP hS => ?_)
  refine lv_if_ne (tgt := 13) hx hb dX7_root_8 (by decide) (fun c1 => ?_) (fun c1 => ?_)
  · rw [if_neg c1] at hf
    refine lv_aload_n hx hb dX7_root_13 rfl (lv_at hl 0 rfl) ?_
    refine xg_0_0 hC hP tw_359 dX7_root_14 ?_
    refine lv_iload_n hx hb dX7_root_17 rfl (lv_at hl 1 rfl) ?_
    refine xp_1_1 hC hP hS tw_70 dX7_root_18 (fun H locs hP hS => ?_)
    obtain ⟨σ2, eσ2, hf⟩ := lt_e hf
    rw [← eσ2] at hP
    refine lv_aload_n hx hb dX7_root_21 rfl (lv_at hl 0 rfl) ?_
    obtain ⟨σ3, eσ3, hf⟩ := lt_e hf
    refine cVv (As := []) (rest := []) hC (k_LT_forgetMeasures l ad cI cJ cZ eσ3.symm) yy_X7_forgetMeasures tw_413 rfl rfl ⟨by decide, by decide⟩ hP hS (q0 := 0) (ci := 7) rfl rfl (xwa_0 ..) rfl hl.1 rfl (Nat.le_of_ble_eq_true rfl) dX7_root_22 (fun H locs hP hS => ?_)
    refine lv_iconst (v := 1) hx hb dX7_root_25 (by decide) ?_
    obtain ⟨h1, h2⟩ := ret2t hf
    exact retZ hx hb hr hlocks hP hS (Or.inr rfl) h1 h2 dX7_root_26
  rw [if_pos c1] at hf
  refine lv_iconst (v := 0) hx hb dX7_root_11 (by decide) ?_
  obtain ⟨h1, h2⟩ := ret2t hf
  exact retZ hx hb hr hlocks hP hS (Or.inl rfl) h1 h2 dX7_root_12
theorem dX7_load_0 : decode cX7_load 0 = .ok (.iload_n 1, 1) := by decide +kernel
theorem dX7_load_1 : decode cX7_load 1 = .ok (.iconst 0, 1) := by decide +kernel
theorem dX7_load_2 : decode cX7_load 2 = .ok (.sipush 9999, 3) := by decide +kernel
theorem dX7_load_5 : decode cX7_load 5 = .ok (.invokestatic 61, 3) := by decide +kernel
theorem dX7_load_8 : decode cX7_load 8 = .ok (.ifCond .ne 5, 3) := by decide +kernel
theorem dX7_load_11 : decode cX7_load 11 = .ok (.iconst 0, 1) := by decide +kernel
theorem dX7_load_12 : decode cX7_load 12 = .ok (.ireturn, 1) := by decide +kernel
theorem dX7_load_13 : decode cX7_load 13 = .ok (.aload_n 0, 1) := by decide +kernel
theorem dX7_load_14 : decode cX7_load 14 = .ok (.getfield 19, 3) := by decide +kernel
theorem dX7_load_17 : decode cX7_load 17 = .ok (.iload_n 1, 1) := by decide +kernel
theorem dX7_load_18 : decode cX7_load 18 = .ok (.putfield 106, 3) := by decide +kernel
theorem dX7_load_21 : decode cX7_load 21 = .ok (.aload_n 0, 1) := by decide +kernel
theorem dX7_load_22 : decode cX7_load 22 = .ok (.getfield 44, 3) := by decide +kernel
theorem dX7_load_25 : decode cX7_load 25 = .ok (.invokevirtual 73, 3) := by decide +kernel
theorem dX7_load_28 : decode cX7_load 28 = .ok (.iconst 1, 1) := by decide +kernel
theorem dX7_load_29 : decode cX7_load 29 = .ok (.ireturn, 1) := by decide +kernel
def LT_load (x1 : Int32) (σ0 : St) : (Int32 × St) := if (LT_within x1 0 9999) = 0 then (0, σ0) else lt (si σ0 6 x1) (fun σ2 => lt (GT_forget σ2) (fun σ3 => (1, σ3)))
abbrev rm_LT_load : Room := { frames := 1, cells := 0, slots := 0, locals := 22 }
set_option maxHeartbeats 4000000 in
set_option maxRecDepth 100000 in
theorem k_LT_load (l : Launch) (ad : Nat → Nat) (cI cJ cZ : ClassId) {x1 : Int32} {σ0 : St} {r : Int32} {τ : St} (hf : LT_load x1 σ0 = (r, τ)) : CtI l yX7_load (gws (.code yX7_load cX7_load 2 (some .boolean))) (rm_LT_load) (ty3 cI cJ cZ) (xw ad cI cJ) [.ref (ad 0), .int x1] σ0 r τ := by
  refine CtI.of (by decide) (xw_ok ad cI cJ) (Nat.le_of_ble_eq_true rfl) ?_
  generalize hav : ([.ref (ad 0), .int x1] : List Value) = av
  intro p e s m below meth c D A hC ls hl hP hS
  obtain ⟨hx, hb, hr, hlocks, hml, hown, hts, hK, hN, hD, hA⟩ := id hC
  rw [← hav] at hl
  have hl : lv_has ls 2 [(0, .ref (ad 0)), (1, .int x1)] := hl
  unfold LT_load at hf
  obtain ⟨H, hH⟩ : ∃ z, z = s.heap := ⟨_, rfl⟩
  obtain ⟨locs, hlocs⟩ : ∃ z : List Loc, z = [] := ⟨_, rfl⟩
  rw [← hH] at hP
  have hS : va_S A s.heap H locs := by rw [hH, hlocs]; exact va_S.rf
  suffices hgoal : W p l e _ s m _ below meth c H locs 0 0 _ _ by rw [hH, hlocs] at hgoal; exact hgoal
  refine lv_iload_n hx hb dX7_load_0 rfl (lv_at hl 1 rfl) ?_
  refine lv_iconst (v := 0) hx hb dX7_load_1 (by decide) ?_
  refine lv_sipush (v := 9999) hx hb dX7_load_2 (by decide) ?_
  refine cSi (As := [.int x1, .int 0, .int 9999]) (rest := []) hC (k_LT_within l (xw ad cI cJ) (xw_ok ad cI cJ) (ty3 cI cJ cZ) _ rfl) yy_X7_within tw_382 rfl rfl ⟨by decide, by decide⟩ hP hS rfl hl.1 rfl (Nat.le_of_ble_eq_true rfl) dX7_load_5 (fun H locs hP hS => ?_)
  refine lv_if_ne (tgt := 13) hx hb dX7_load_8 (by decide) (fun c1 => ?_) (fun c1 => ?_)
  · rw [if_neg c1] at hf
    refine lv_aload_n hx hb dX7_load_13 rfl (lv_at hl 0 rfl) ?_
    refine xg_0_1 hC hP tw_360 dX7_load_14 ?_
    refine lv_iload_n hx hb dX7_load_17 rfl (lv_at hl 1 rfl) ?_
    refine xp_2_2 hC hP hS tw_129 dX7_load_18 (fun H locs hP hS => ?_)
    obtain ⟨σ2, eσ2, hf⟩ := lt_e hf
    rw [← eσ2] at hP
    refine lv_aload_n hx hb dX7_load_21 rfl (lv_at hl 0 rfl) ?_
    refine xg_0_4 hC hP tw_363 dX7_load_22 ?_
    obtain ⟨σ3, eσ3, hf⟩ := lt_e hf
    refine cVv (As := []) (rest := []) hC (k_GT_forget l ad cI cJ cZ eσ3.symm) yy_X0_forget tw_355 rfl rfl ⟨by decide, by decide⟩ hP hS (q0 := 6) (ci := 0) rfl rfl (xwa_6 ..) rfl hl.1 rfl (Nat.le_of_ble_eq_true rfl) dX7_load_25 (fun H locs hP hS => ?_)
    refine lv_iconst (v := 1) hx hb dX7_load_28 (by decide) ?_
    obtain ⟨h1, h2⟩ := ret2t hf
    exact retZ hx hb hr hlocks hP hS (Or.inr rfl) h1 h2 dX7_load_29
  rw [if_pos c1] at hf
  refine lv_iconst (v := 0) hx hb dX7_load_11 (by decide) ?_
  obtain ⟨h1, h2⟩ := ret2t hf
  exact retZ hx hb hr hlocks hP hS (Or.inl rfl) h1 h2 dX7_load_12
theorem dX7_demand_0 : decode cX7_demand 0 = .ok (.aload_n 0, 1) := by decide +kernel
theorem dX7_demand_1 : decode cX7_demand 1 = .ok (.getfield 12, 3) := by decide +kernel
theorem dX7_demand_4 : decode cX7_demand 4 = .ok (.iload_n 1, 1) := by decide +kernel
theorem dX7_demand_5 : decode cX7_demand 5 = .ok (.invokevirtual 65, 3) := by decide +kernel
theorem dX7_demand_8 : decode cX7_demand 8 = .ok (.ifCond .eq 13, 3) := by decide +kernel
theorem dX7_demand_11 : decode cX7_demand 11 = .ok (.iload_n 2, 1) := by decide +kernel
theorem dX7_demand_12 : decode cX7_demand 12 = .ok (.iconst 0, 1) := by decide +kernel
theorem dX7_demand_13 : decode cX7_demand 13 = .ok (.bipush 99, 2) := by decide +kernel
theorem dX7_demand_15 : decode cX7_demand 15 = .ok (.invokestatic 61, 3) := by decide +kernel
theorem dX7_demand_18 : decode cX7_demand 18 = .ok (.ifCond .ne 5, 3) := by decide +kernel
theorem dX7_demand_21 : decode cX7_demand 21 = .ok (.iconst 0, 1) := by decide +kernel
theorem dX7_demand_22 : decode cX7_demand 22 = .ok (.ireturn, 1) := by decide +kernel
theorem dX7_demand_23 : decode cX7_demand 23 = .ok (.aload_n 0, 1) := by decide +kernel
theorem dX7_demand_24 : decode cX7_demand 24 = .ok (.getfield 12, 3) := by decide +kernel
theorem dX7_demand_27 : decode cX7_demand 27 = .ok (.getfield 109, 3) := by decide +kernel
theorem dX7_demand_30 : decode cX7_demand 30 = .ok (.iload_n 1, 1) := by decide +kernel
theorem dX7_demand_31 : decode cX7_demand 31 = .ok (.iload_n 2, 1) := by decide +kernel
theorem dX7_demand_32 : decode cX7_demand 32 = .ok (.iastore, 1) := by decide +kernel
theorem dX7_demand_33 : decode cX7_demand 33 = .ok (.aload_n 0, 1) := by decide +kernel
theorem dX7_demand_34 : decode cX7_demand 34 = .ok (.invokevirtual 93, 3) := by decide +kernel
theorem dX7_demand_37 : decode cX7_demand 37 = .ok (.iconst 1, 1) := by decide +kernel
theorem dX7_demand_38 : decode cX7_demand 38 = .ok (.ireturn, 1) := by decide +kernel
def LT_demand (N : Nat) (x1 : Int32) (x2 : Int32) (σ0 : St) : Option (Int32 × St) := if (Net_hasPost x1 σ0) = 0 then some (0, σ0) else if (LT_within x2 0 99) = 0 then some (0, σ0) else grd (inb x1 8) (lt (sa σ0 0 (x1).toNatClampNeg x2) (fun σ4 => lt (LT_forgetMeasures σ4) (fun σ5 => some (1, σ5))))
abbrev rm_LT_demand : Room := { frames := 2, cells := 0, slots := 0, locals := 40 }
set_option maxHeartbeats 4000000 in
set_option maxRecDepth 100000 in
theorem k_LT_demand (l : Launch) (ad : Nat → Nat) (cI cJ cZ : ClassId) {N : Nat} {x1 : Int32} {x2 : Int32} {σ0 : St} {r : Int32} {τ : St} (hf : LT_demand N x1 x2 σ0 = some (r, τ)) : CtI l yX7_demand (gws (.code yX7_demand cX7_demand 3 (some .boolean))) (rm_LT_demand) (ty3 cI cJ cZ) (xw ad cI cJ) [.ref (ad 0), .int x1, .int x2] σ0 r τ := by
  refine CtI.of (by decide) (xw_ok ad cI cJ) (Nat.le_of_ble_eq_true rfl) ?_
  generalize hav : ([.ref (ad 0), .int x1, .int x2] : List Value) = av
  intro p e s m below meth c D A hC ls hl hP hS
  obtain ⟨hx, hb, hr, hlocks, hml, hown, hts, hK, hN, hD, hA⟩ := id hC
  rw [← hav] at hl
  have hl : lv_has ls 3 [(0, .ref (ad 0)), (1, .int x1), (2, .int x2)] := hl
  unfold LT_demand at hf
  obtain ⟨H, hH⟩ : ∃ z, z = s.heap := ⟨_, rfl⟩
  obtain ⟨locs, hlocs⟩ : ∃ z : List Loc, z = [] := ⟨_, rfl⟩
  rw [← hH] at hP
  have hS : va_S A s.heap H locs := by rw [hH, hlocs]; exact va_S.rf
  suffices hgoal : W p l e _ s m _ below meth c H locs 0 0 _ _ by rw [hH, hlocs] at hgoal; exact hgoal
  refine lv_aload_n hx hb dX7_demand_0 rfl (lv_at hl 0 rfl) ?_
  refine xg_0_0 hC hP tw_359 dX7_demand_1 ?_
  refine lv_iload_n hx hb dX7_demand_4 rfl (lv_at hl 1 rfl) ?_
  refine cVi (As := [.int x1]) (rest := []) hC (k_Net_hasPost l ad cI cJ cZ rfl) yy_X2_hasPost tw_389 rfl rfl ⟨by decide, by decide⟩ hP hS (q0 := 1) (ci := 2) rfl rfl (xwa_1 ..) rfl hl.1 rfl (Nat.le_of_ble_eq_true rfl) dX7_demand_5 (fun H locs hP hS => ?_)
  refine lv_if_eq (tgt := 21) hx hb dX7_demand_8 (by decide) (fun c1 => ?_) (fun c1 => ?_)
  · rw [if_pos c1] at hf
    refine lv_iconst (v := 0) hx hb dX7_demand_21 (by decide) ?_
    obtain ⟨h1, h2⟩ := ret2 hf
    exact retZ hx hb hr hlocks hP hS (Or.inl rfl) h1 h2 dX7_demand_22
  rw [if_neg c1] at hf
  refine lv_iload_n hx hb dX7_demand_11 rfl (lv_at hl 2 rfl) ?_
  refine lv_iconst (v := 0) hx hb dX7_demand_12 (by decide) ?_
  refine lv_bipush (v := 99) hx hb dX7_demand_13 (by decide) ?_
  refine cSi (As := [.int x2, .int 0, .int 99]) (rest := []) hC (k_LT_within l (xw ad cI cJ) (xw_ok ad cI cJ) (ty3 cI cJ cZ) _ rfl) yy_X7_within tw_382 rfl rfl ⟨by decide, by decide⟩ hP hS rfl hl.1 rfl (Nat.le_of_ble_eq_true rfl) dX7_demand_15 (fun H locs hP hS => ?_)
  refine lv_if_ne (tgt := 23) hx hb dX7_demand_18 (by decide) (fun c2 => ?_) (fun c2 => ?_)
  · rw [if_neg c2] at hf
    refine lv_aload_n hx hb dX7_demand_23 rfl (lv_at hl 0 rfl) ?_
    refine xg_0_0 hC hP tw_359 dX7_demand_24 ?_
    refine xg_1_5 hC hP tw_81 dX7_demand_27 ?_
    refine lv_iload_n hx hb dX7_demand_30 rfl (lv_at hl 1 rfl) ?_
    refine lv_iload_n hx hb dX7_demand_31 rfl (lv_at hl 2 rfl) ?_
    obtain ⟨g3, hf⟩ := grd_some hf
    refine xs_9 hC hP hS g3 dX7_demand_32 (fun H locs hP hS => ?_)
    obtain ⟨σ4, eσ4, hf⟩ := lt_e hf
    rw [← eσ4] at hP
    refine lv_aload_n hx hb dX7_demand_33 rfl (lv_at hl 0 rfl) ?_
    obtain ⟨σ5, eσ5, hf⟩ := lt_e hf
    refine cVv (As := []) (rest := []) hC (k_LT_forgetMeasures l ad cI cJ cZ eσ5.symm) yy_X7_forgetMeasures tw_413 rfl rfl ⟨by decide, by decide⟩ hP hS (q0 := 0) (ci := 7) rfl rfl (xwa_0 ..) rfl hl.1 rfl (Nat.le_of_ble_eq_true rfl) dX7_demand_34 (fun H locs hP hS => ?_)
    refine lv_iconst (v := 1) hx hb dX7_demand_37 (by decide) ?_
    obtain ⟨h1, h2⟩ := ret2 hf
    exact retZ hx hb hr hlocks hP hS (Or.inr rfl) h1 h2 dX7_demand_38
  rw [if_pos c2] at hf
  refine lv_iconst (v := 0) hx hb dX7_demand_21 (by decide) ?_
  obtain ⟨h1, h2⟩ := ret2 hf
  exact retZ hx hb hr hlocks hP hS (Or.inl rfl) h1 h2 dX7_demand_22
theorem dX7_reds_0 : decode cX7_reds 0 = .ok (.iload_n 1, 1) := by decide +kernel
theorem dX7_reds_1 : decode cX7_reds 1 = .ok (.iconst 0, 1) := by decide +kernel
theorem dX7_reds_2 : decode cX7_reds 2 = .ok (.bipush 14, 2) := by decide +kernel
theorem dX7_reds_4 : decode cX7_reds 4 = .ok (.invokestatic 61, 3) := by decide +kernel
theorem dX7_reds_7 : decode cX7_reds 7 = .ok (.ifCond .eq 13, 3) := by decide +kernel
theorem dX7_reds_10 : decode cX7_reds 10 = .ok (.iload_n 2, 1) := by decide +kernel
theorem dX7_reds_11 : decode cX7_reds 11 = .ok (.iload_n 1, 1) := by decide +kernel
theorem dX7_reds_12 : decode cX7_reds 12 = .ok (.bipush 14, 2) := by decide +kernel
theorem dX7_reds_14 : decode cX7_reds 14 = .ok (.invokestatic 61, 3) := by decide +kernel
theorem dX7_reds_17 : decode cX7_reds 17 = .ok (.ifCond .ne 5, 3) := by decide +kernel
theorem dX7_reds_20 : decode cX7_reds 20 = .ok (.iconst 0, 1) := by decide +kernel
theorem dX7_reds_21 : decode cX7_reds 21 = .ok (.ireturn, 1) := by decide +kernel
theorem dX7_reds_22 : decode cX7_reds 22 = .ok (.aload_n 0, 1) := by decide +kernel
theorem dX7_reds_23 : decode cX7_reds 23 = .ok (.getfield 19, 3) := by decide +kernel
theorem dX7_reds_26 : decode cX7_reds 26 = .ok (.iload_n 1, 1) := by decide +kernel
theorem dX7_reds_27 : decode cX7_reds 27 = .ok (.putfield 112, 3) := by decide +kernel
theorem dX7_reds_30 : decode cX7_reds 30 = .ok (.aload_n 0, 1) := by decide +kernel
theorem dX7_reds_31 : decode cX7_reds 31 = .ok (.getfield 19, 3) := by decide +kernel
theorem dX7_reds_34 : decode cX7_reds 34 = .ok (.iload_n 2, 1) := by decide +kernel
theorem dX7_reds_35 : decode cX7_reds 35 = .ok (.putfield 115, 3) := by decide +kernel
theorem dX7_reds_38 : decode cX7_reds 38 = .ok (.aload_n 0, 1) := by decide +kernel
theorem dX7_reds_39 : decode cX7_reds 39 = .ok (.getfield 44, 3) := by decide +kernel
theorem dX7_reds_42 : decode cX7_reds 42 = .ok (.invokevirtual 73, 3) := by decide +kernel
theorem dX7_reds_45 : decode cX7_reds 45 = .ok (.iconst 1, 1) := by decide +kernel
theorem dX7_reds_46 : decode cX7_reds 46 = .ok (.ireturn, 1) := by decide +kernel
def LT_reds (x1 : Int32) (x2 : Int32) (σ0 : St) : (Int32 × St) := if (LT_within x1 0 14) = 0 then (0, σ0) else if (LT_within x2 x1 14) = 0 then (0, σ0) else lt (si σ0 7 x1) (fun σ3 => lt (si σ3 8 x2) (fun σ4 => lt (GT_forget σ4) (fun σ5 => (1, σ5))))
abbrev rm_LT_reds : Room := { frames := 1, cells := 0, slots := 0, locals := 22 }
set_option maxHeartbeats 4000000 in
set_option maxRecDepth 100000 in
theorem k_LT_reds (l : Launch) (ad : Nat → Nat) (cI cJ cZ : ClassId) {x1 : Int32} {x2 : Int32} {σ0 : St} {r : Int32} {τ : St} (hf : LT_reds x1 x2 σ0 = (r, τ)) : CtI l yX7_reds (gws (.code yX7_reds cX7_reds 3 (some .boolean))) (rm_LT_reds) (ty3 cI cJ cZ) (xw ad cI cJ) [.ref (ad 0), .int x1, .int x2] σ0 r τ := by
  refine CtI.of (by decide) (xw_ok ad cI cJ) (Nat.le_of_ble_eq_true rfl) ?_
  generalize hav : ([.ref (ad 0), .int x1, .int x2] : List Value) = av
  intro p e s m below meth c D A hC ls hl hP hS
  obtain ⟨hx, hb, hr, hlocks, hml, hown, hts, hK, hN, hD, hA⟩ := id hC
  rw [← hav] at hl
  have hl : lv_has ls 3 [(0, .ref (ad 0)), (1, .int x1), (2, .int x2)] := hl
  unfold LT_reds at hf
  obtain ⟨H, hH⟩ : ∃ z, z = s.heap := ⟨_, rfl⟩
  obtain ⟨locs, hlocs⟩ : ∃ z : List Loc, z = [] := ⟨_, rfl⟩
  rw [← hH] at hP
  have hS : va_S A s.heap H locs := by rw [hH, hlocs]; exact va_S.rf
  suffices hgoal : W p l e _ s m _ below meth c H locs 0 0 _ _ by rw [hH, hlocs] at hgoal; exact hgoal
  refine lv_iload_n hx hb dX7_reds_0 rfl (lv_at hl 1 rfl) ?_
  refine lv_iconst (v := 0) hx hb dX7_reds_1 (by decide) ?_
  refine lv_bipush (v := 14) hx hb dX7_reds_2 (by decide) ?_
  refine cSi (As := [.int x1, .int 0, .int 14]) (rest := []) hC (k_LT_within l (xw ad cI cJ) (xw_ok ad cI cJ) (ty3 cI cJ cZ) _ rfl) yy_X7_within tw_382 rfl rfl ⟨by decide, by decide⟩ hP hS rfl hl.1 rfl (Nat.le_of_ble_eq_true rfl) dX7_reds_4 (fun H locs hP hS => ?_)
  refine lv_if_eq (tgt := 20) hx hb dX7_reds_7 (by decide) (fun c1 => ?_) (fun c1 => ?_)
  · rw [if_pos c1] at hf
    refine lv_iconst (v := 0) hx hb dX7_reds_20 (by decide) ?_
    obtain ⟨h1, h2⟩ := ret2t hf
    exact retZ hx hb hr hlocks hP hS (Or.inl rfl) h1 h2 dX7_reds_21
  rw [if_neg c1] at hf
  refine lv_iload_n hx hb dX7_reds_10 rfl (lv_at hl 2 rfl) ?_
  refine lv_iload_n hx hb dX7_reds_11 rfl (lv_at hl 1 rfl) ?_
  refine lv_bipush (v := 14) hx hb dX7_reds_12 (by decide) ?_
  refine cSi (As := [.int x2, .int x1, .int 14]) (rest := []) hC (k_LT_within l (xw ad cI cJ) (xw_ok ad cI cJ) (ty3 cI cJ cZ) _ rfl) yy_X7_within tw_382 rfl rfl ⟨by decide, by decide⟩ hP hS rfl hl.1 rfl (Nat.le_of_ble_eq_true rfl) dX7_reds_14 (fun H locs hP hS => ?_)
  refine lv_if_ne (tgt := 22) hx hb dX7_reds_17 (by decide) (fun c2 => ?_) (fun c2 => ?_)
  · rw [if_neg c2] at hf
    refine lv_aload_n hx hb dX7_reds_22 rfl (lv_at hl 0 rfl) ?_
    refine xg_0_1 hC hP tw_360 dX7_reds_23 ?_
    refine lv_iload_n hx hb dX7_reds_26 rfl (lv_at hl 1 rfl) ?_
    refine xp_2_3 hC hP hS tw_131 dX7_reds_27 (fun H locs hP hS => ?_)
    obtain ⟨σ3, eσ3, hf⟩ := lt_e hf
    rw [← eσ3] at hP
    refine lv_aload_n hx hb dX7_reds_30 rfl (lv_at hl 0 rfl) ?_
    refine xg_0_1 hC hP tw_360 dX7_reds_31 ?_
    refine lv_iload_n hx hb dX7_reds_34 rfl (lv_at hl 2 rfl) ?_
    refine xp_2_4 hC hP hS tw_133 dX7_reds_35 (fun H locs hP hS => ?_)
    obtain ⟨σ4, eσ4, hf⟩ := lt_e hf
    rw [← eσ4] at hP
    refine lv_aload_n hx hb dX7_reds_38 rfl (lv_at hl 0 rfl) ?_
    refine xg_0_4 hC hP tw_363 dX7_reds_39 ?_
    obtain ⟨σ5, eσ5, hf⟩ := lt_e hf
    refine cVv (As := []) (rest := []) hC (k_GT_forget l ad cI cJ cZ eσ5.symm) yy_X0_forget tw_355 rfl rfl ⟨by decide, by decide⟩ hP hS (q0 := 6) (ci := 0) rfl rfl (xwa_6 ..) rfl hl.1 rfl (Nat.le_of_ble_eq_true rfl) dX7_reds_42 (fun H locs hP hS => ?_)
    refine lv_iconst (v := 1) hx hb dX7_reds_45 (by decide) ?_
    obtain ⟨h1, h2⟩ := ret2t hf
    exact retZ hx hb hr hlocks hP hS (Or.inr rfl) h1 h2 dX7_reds_46
  rw [if_pos c2] at hf
  refine lv_iconst (v := 0) hx hb dX7_reds_20 (by decide) ?_
  obtain ⟨h1, h2⟩ := ret2t hf
  exact retZ hx hb hr hlocks hP hS (Or.inl rfl) h1 h2 dX7_reds_21
theorem dX7_way_0 : decode cX7_way 0 = .ok (.iload_n 1, 1) := by decide +kernel
theorem dX7_way_1 : decode cX7_way 1 = .ok (.iconst 0, 1) := by decide +kernel
theorem dX7_way_2 : decode cX7_way 2 = .ok (.sipush 9999, 3) := by decide +kernel
theorem dX7_way_5 : decode cX7_way 5 = .ok (.invokestatic 61, 3) := by decide +kernel
theorem dX7_way_8 : decode cX7_way 8 = .ok (.ifCond .ne 5, 3) := by decide +kernel
theorem dX7_way_11 : decode cX7_way 11 = .ok (.iconst 0, 1) := by decide +kernel
theorem dX7_way_12 : decode cX7_way 12 = .ok (.ireturn, 1) := by decide +kernel
theorem dX7_way_13 : decode cX7_way 13 = .ok (.aload_n 0, 1) := by decide +kernel
theorem dX7_way_14 : decode cX7_way 14 = .ok (.getfield 19, 3) := by decide +kernel
theorem dX7_way_17 : decode cX7_way 17 = .ok (.iload_n 1, 1) := by decide +kernel
theorem dX7_way_18 : decode cX7_way 18 = .ok (.putfield 118, 3) := by decide +kernel
theorem dX7_way_21 : decode cX7_way 21 = .ok (.aload_n 0, 1) := by decide +kernel
theorem dX7_way_22 : decode cX7_way 22 = .ok (.getfield 44, 3) := by decide +kernel
theorem dX7_way_25 : decode cX7_way 25 = .ok (.invokevirtual 73, 3) := by decide +kernel
theorem dX7_way_28 : decode cX7_way 28 = .ok (.iconst 1, 1) := by decide +kernel
theorem dX7_way_29 : decode cX7_way 29 = .ok (.ireturn, 1) := by decide +kernel
def LT_way (x1 : Int32) (σ0 : St) : (Int32 × St) := if (LT_within x1 0 9999) = 0 then (0, σ0) else lt (si σ0 9 x1) (fun σ2 => lt (GT_forget σ2) (fun σ3 => (1, σ3)))
abbrev rm_LT_way : Room := { frames := 1, cells := 0, slots := 0, locals := 22 }
set_option maxHeartbeats 4000000 in
set_option maxRecDepth 100000 in
theorem k_LT_way (l : Launch) (ad : Nat → Nat) (cI cJ cZ : ClassId) {x1 : Int32} {σ0 : St} {r : Int32} {τ : St} (hf : LT_way x1 σ0 = (r, τ)) : CtI l yX7_way (gws (.code yX7_way cX7_way 2 (some .boolean))) (rm_LT_way) (ty3 cI cJ cZ) (xw ad cI cJ) [.ref (ad 0), .int x1] σ0 r τ := by
  refine CtI.of (by decide) (xw_ok ad cI cJ) (Nat.le_of_ble_eq_true rfl) ?_
  generalize hav : ([.ref (ad 0), .int x1] : List Value) = av
  intro p e s m below meth c D A hC ls hl hP hS
  obtain ⟨hx, hb, hr, hlocks, hml, hown, hts, hK, hN, hD, hA⟩ := id hC
  rw [← hav] at hl
  have hl : lv_has ls 2 [(0, .ref (ad 0)), (1, .int x1)] := hl
  unfold LT_way at hf
  obtain ⟨H, hH⟩ : ∃ z, z = s.heap := ⟨_, rfl⟩
  obtain ⟨locs, hlocs⟩ : ∃ z : List Loc, z = [] := ⟨_, rfl⟩
  rw [← hH] at hP
  have hS : va_S A s.heap H locs := by rw [hH, hlocs]; exact va_S.rf
  suffices hgoal : W p l e _ s m _ below meth c H locs 0 0 _ _ by rw [hH, hlocs] at hgoal; exact hgoal
  refine lv_iload_n hx hb dX7_way_0 rfl (lv_at hl 1 rfl) ?_
  refine lv_iconst (v := 0) hx hb dX7_way_1 (by decide) ?_
  refine lv_sipush (v := 9999) hx hb dX7_way_2 (by decide) ?_
  refine cSi (As := [.int x1, .int 0, .int 9999]) (rest := []) hC (k_LT_within l (xw ad cI cJ) (xw_ok ad cI cJ) (ty3 cI cJ cZ) _ rfl) yy_X7_within tw_382 rfl rfl ⟨by decide, by decide⟩ hP hS rfl hl.1 rfl (Nat.le_of_ble_eq_true rfl) dX7_way_5 (fun H locs hP hS => ?_)
  refine lv_if_ne (tgt := 13) hx hb dX7_way_8 (by decide) (fun c1 => ?_) (fun c1 => ?_)
  · rw [if_neg c1] at hf
    refine lv_aload_n hx hb dX7_way_13 rfl (lv_at hl 0 rfl) ?_
    refine xg_0_1 hC hP tw_360 dX7_way_14 ?_
    refine lv_iload_n hx hb dX7_way_17 rfl (lv_at hl 1 rfl) ?_
    refine xp_2_5 hC hP hS tw_135 dX7_way_18 (fun H locs hP hS => ?_)
    obtain ⟨σ2, eσ2, hf⟩ := lt_e hf
    rw [← eσ2] at hP
    refine lv_aload_n hx hb dX7_way_21 rfl (lv_at hl 0 rfl) ?_
    refine xg_0_4 hC hP tw_363 dX7_way_22 ?_
    obtain ⟨σ3, eσ3, hf⟩ := lt_e hf
    refine cVv (As := []) (rest := []) hC (k_GT_forget l ad cI cJ cZ eσ3.symm) yy_X0_forget tw_355 rfl rfl ⟨by decide, by decide⟩ hP hS (q0 := 6) (ci := 0) rfl rfl (xwa_6 ..) rfl hl.1 rfl (Nat.le_of_ble_eq_true rfl) dX7_way_25 (fun H locs hP hS => ?_)
    refine lv_iconst (v := 1) hx hb dX7_way_28 (by decide) ?_
    obtain ⟨h1, h2⟩ := ret2t hf
    exact retZ hx hb hr hlocks hP hS (Or.inr rfl) h1 h2 dX7_way_29
  rw [if_pos c1] at hf
  refine lv_iconst (v := 0) hx hb dX7_way_11 (by decide) ?_
  obtain ⟨h1, h2⟩ := ret2t hf
  exact retZ hx hb hr hlocks hP hS (Or.inl rfl) h1 h2 dX7_way_12
theorem dX7_tree_0 : decode cX7_tree 0 = .ok (.aload_n 0, 1) := by decide +kernel
theorem dX7_tree_1 : decode cX7_tree 1 = .ok (.getfield 12, 3) := by decide +kernel
theorem dX7_tree_4 : decode cX7_tree 4 = .ok (.iload_n 1, 1) := by decide +kernel
theorem dX7_tree_5 : decode cX7_tree 5 = .ok (.invokevirtual 121, 3) := by decide +kernel
theorem dX7_tree_8 : decode cX7_tree 8 = .ok (.ifCond .ne 5, 3) := by decide +kernel
theorem dX7_tree_11 : decode cX7_tree 11 = .ok (.iconst (-1), 1) := by decide +kernel
theorem dX7_tree_12 : decode cX7_tree 12 = .ok (.ireturn, 1) := by decide +kernel
theorem dX7_tree_13 : decode cX7_tree 13 = .ok (.aload_n 0, 1) := by decide +kernel
theorem dX7_tree_14 : decode cX7_tree 14 = .ok (.iload_n 1, 1) := by decide +kernel
theorem dX7_tree_15 : decode cX7_tree 15 = .ok (.invokevirtual 124, 3) := by decide +kernel
theorem dX7_tree_18 : decode cX7_tree 18 = .ok (.ifCond .eq 7, 3) := by decide +kernel
theorem dX7_tree_21 : decode cX7_tree 21 = .ok (.iconst 1, 1) := by decide +kernel
theorem dX7_tree_22 : decode cX7_tree 22 = .ok (.goto 4, 3) := by decide +kernel
theorem dX7_tree_25 : decode cX7_tree 25 = .ok (.iconst 0, 1) := by decide +kernel
theorem dX7_tree_26 : decode cX7_tree 26 = .ok (.ireturn, 1) := by decide +kernel
def LT_tree (N : Nat) (x1 : Int32) (σ0 : St) : Option (Int32 × St) := if (Net_hasLines x1 σ0) = 0 then some ((-1), σ0) else bnd2 (LT_isTree N x1 σ0) (fun y2 σ3 => if y2 = 0 then some (0, σ3) else some (1, σ3))
abbrev rm_LT_tree : Room := { frames := 13, cells := 0, slots := 0, locals := 319 }
set_option maxHeartbeats 4000000 in
set_option maxRecDepth 100000 in
theorem k_LT_tree (l : Launch) (ad : Nat → Nat) (cI cJ cZ : ClassId) {N : Nat} {x1 : Int32} {σ0 : St} {r : Int32} {τ : St} (hf : LT_tree N x1 σ0 = some (r, τ)) : CtI l yX7_tree (gws (.code yX7_tree cX7_tree 2 (some .int))) (rm_LT_tree) (ty3 cI cJ cZ) (xw ad cI cJ) [.ref (ad 0), .int x1] σ0 r τ := by
  refine CtI.of (by decide) (xw_ok ad cI cJ) (Nat.le_of_ble_eq_true rfl) ?_
  generalize hav : ([.ref (ad 0), .int x1] : List Value) = av
  intro p e s m below meth c D A hC ls hl hP hS
  obtain ⟨hx, hb, hr, hlocks, hml, hown, hts, hK, hN, hD, hA⟩ := id hC
  rw [← hav] at hl
  have hl : lv_has ls 2 [(0, .ref (ad 0)), (1, .int x1)] := hl
  unfold LT_tree at hf
  obtain ⟨H, hH⟩ : ∃ z, z = s.heap := ⟨_, rfl⟩
  obtain ⟨locs, hlocs⟩ : ∃ z : List Loc, z = [] := ⟨_, rfl⟩
  rw [← hH] at hP
  have hS : va_S A s.heap H locs := by rw [hH, hlocs]; exact va_S.rf
  suffices hgoal : W p l e _ s m _ below meth c H locs 0 0 _ _ by rw [hH, hlocs] at hgoal; exact hgoal
  refine lv_aload_n hx hb dX7_tree_0 rfl (lv_at hl 0 rfl) ?_
  refine xg_0_0 hC hP tw_359 dX7_tree_1 ?_
  refine lv_iload_n hx hb dX7_tree_4 rfl (lv_at hl 1 rfl) ?_
  refine cVi (As := [.int x1]) (rest := []) hC (k_Net_hasLines l ad cI cJ cZ rfl) yy_X2_hasLines tw_457 rfl rfl ⟨by decide, by decide⟩ hP hS (q0 := 1) (ci := 2) rfl rfl (xwa_1 ..) rfl hl.1 rfl (Nat.le_of_ble_eq_true rfl) dX7_tree_5 (fun H locs hP hS => ?_)
  refine lv_if_ne (tgt := 13) hx hb dX7_tree_8 (by decide) (fun c1 => ?_) (fun c1 => ?_)
  · rw [if_neg c1] at hf
    refine lv_aload_n hx hb dX7_tree_13 rfl (lv_at hl 0 rfl) ?_
    refine lv_iload_n hx hb dX7_tree_14 rfl (lv_at hl 1 rfl) ?_
    obtain ⟨y2, σ3, hcy2, hf⟩ := bnd2_some hf
    refine cVi (As := [.int x1]) (rest := []) hC (k_LT_isTree l ad cI cJ cZ hcy2) yy_X7_isTree tw_461 rfl rfl ⟨by decide, by decide⟩ hP hS (q0 := 0) (ci := 7) rfl rfl (xwa_0 ..) rfl hl.1 rfl (Nat.le_of_ble_eq_true rfl) dX7_tree_15 (fun H locs hP hS => ?_)
    refine lv_if_eq (tgt := 25) hx hb dX7_tree_18 (by decide) (fun c4 => ?_) (fun c4 => ?_)
    · rw [if_pos c4] at hf
      refine lv_iconst (v := 0) hx hb dX7_tree_25 (by decide) ?_
      obtain ⟨h1, h2⟩ := ret2 hf
      exact retI hx hb hr hlocks hP hS h1 h2 dX7_tree_26
    rw [if_neg c4] at hf
    refine lv_iconst (v := 1) hx hb dX7_tree_21 (by decide) ?_
    refine lv_goto (tgt := 26) hx hb dX7_tree_22 (by decide) ?_
    obtain ⟨h1, h2⟩ := ret2 hf
    exact retI hx hb hr hlocks hP hS h1 h2 dX7_tree_26
  rw [if_pos c1] at hf
  refine lv_iconst (v := (-1)) hx hb dX7_tree_11 (by decide) ?_
  obtain ⟨h1, h2⟩ := ret2 hf
  exact retI hx hb hr hlocks hP hS h1 h2 dX7_tree_12
theorem dX7_breaks_0 : decode cX7_breaks 0 = .ok (.aload_n 0, 1) := by decide +kernel
theorem dX7_breaks_1 : decode cX7_breaks 1 = .ok (.iload_n 1, 1) := by decide +kernel
theorem dX7_breaks_2 : decode cX7_breaks 2 = .ok (.invokevirtual 124, 3) := by decide +kernel
theorem dX7_breaks_5 : decode cX7_breaks 5 = .ok (.ifCond .ne 5, 3) := by decide +kernel
theorem dX7_breaks_8 : decode cX7_breaks 8 = .ok (.iconst (-1), 1) := by decide +kernel
theorem dX7_breaks_9 : decode cX7_breaks 9 = .ok (.ireturn, 1) := by decide +kernel
theorem dX7_breaks_10 : decode cX7_breaks 10 = .ok (.aload_n 0, 1) := by decide +kernel
theorem dX7_breaks_11 : decode cX7_breaks 11 = .ok (.getfield 28, 3) := by decide +kernel
theorem dX7_breaks_14 : decode cX7_breaks 14 = .ok (.iload_n 1, 1) := by decide +kernel
theorem dX7_breaks_15 : decode cX7_breaks 15 = .ok (.invokevirtual 127, 3) := by decide +kernel
theorem dX7_breaks_18 : decode cX7_breaks 18 = .ok (.aload_n 0, 1) := by decide +kernel
theorem dX7_breaks_19 : decode cX7_breaks 19 = .ok (.getfield 19, 3) := by decide +kernel
theorem dX7_breaks_22 : decode cX7_breaks 22 = .ok (.aload_n 0, 1) := by decide +kernel
theorem dX7_breaks_23 : decode cX7_breaks 23 = .ok (.getfield 12, 3) := by decide +kernel
theorem dX7_breaks_26 : decode cX7_breaks 26 = .ok (.iload_n 1, 1) := by decide +kernel
theorem dX7_breaks_27 : decode cX7_breaks 27 = .ok (.aload_n 0, 1) := by decide +kernel
theorem dX7_breaks_28 : decode cX7_breaks 28 = .ok (.getfield 28, 3) := by decide +kernel
theorem dX7_breaks_31 : decode cX7_breaks 31 = .ok (.getfield 130, 3) := by decide +kernel
theorem dX7_breaks_34 : decode cX7_breaks 34 = .ok (.aload_n 0, 1) := by decide +kernel
theorem dX7_breaks_35 : decode cX7_breaks 35 = .ok (.getfield 28, 3) := by decide +kernel
theorem dX7_breaks_38 : decode cX7_breaks 38 = .ok (.getfield 131, 3) := by decide +kernel
theorem dX7_breaks_41 : decode cX7_breaks 41 = .ok (.aload_n 0, 1) := by decide +kernel
theorem dX7_breaks_42 : decode cX7_breaks 42 = .ok (.getfield 28, 3) := by decide +kernel
theorem dX7_breaks_45 : decode cX7_breaks 45 = .ok (.getfield 132, 3) := by decide +kernel
theorem dX7_breaks_48 : decode cX7_breaks 48 = .ok (.invokevirtual 133, 3) := by decide +kernel
theorem dX7_breaks_51 : decode cX7_breaks 51 = .ok (.ireturn, 1) := by decide +kernel
def LT_breaks (N : Nat) (x1 : Int32) (σ0 : St) : Option (Int32 × St) := bnd2 (LT_isTree N x1 σ0) (fun y1 σ2 => if y1 = 0 then some ((-1), σ2) else bnd (Sh_walk N x1 σ2) (fun σ4 => bnd (Lim_brokenBy N x1 (σ4.1 12) (σ4.1 13) (σ4.1 14) σ4) (fun y5 => some (y5, σ4))))
abbrev rm_LT_breaks : Room := { frames := 13, cells := 0, slots := 0, locals := 332 }
set_option maxHeartbeats 4000000 in
set_option maxRecDepth 100000 in
theorem k_LT_breaks (l : Launch) (ad : Nat → Nat) (cI cJ cZ : ClassId) {N : Nat} {x1 : Int32} {σ0 : St} {r : Int32} {τ : St} (hf : LT_breaks N x1 σ0 = some (r, τ)) : CtI l yX7_breaks (gws (.code yX7_breaks cX7_breaks 2 (some .int))) (rm_LT_breaks) (ty3 cI cJ cZ) (xw ad cI cJ) [.ref (ad 0), .int x1] σ0 r τ := by
  refine CtI.of (by decide) (xw_ok ad cI cJ) (Nat.le_of_ble_eq_true rfl) ?_
  generalize hav : ([.ref (ad 0), .int x1] : List Value) = av
  intro p e s m below meth c D A hC ls hl hP hS
  obtain ⟨hx, hb, hr, hlocks, hml, hown, hts, hK, hN, hD, hA⟩ := id hC
  rw [← hav] at hl
  have hl : lv_has ls 2 [(0, .ref (ad 0)), (1, .int x1)] := hl
  unfold LT_breaks at hf
  obtain ⟨H, hH⟩ : ∃ z, z = s.heap := ⟨_, rfl⟩
  obtain ⟨locs, hlocs⟩ : ∃ z : List Loc, z = [] := ⟨_, rfl⟩
  rw [← hH] at hP
  have hS : va_S A s.heap H locs := by rw [hH, hlocs]; exact va_S.rf
  suffices hgoal : W p l e _ s m _ below meth c H locs 0 0 _ _ by rw [hH, hlocs] at hgoal; exact hgoal
  refine lv_aload_n hx hb dX7_breaks_0 rfl (lv_at hl 0 rfl) ?_
  refine lv_iload_n hx hb dX7_breaks_1 rfl (lv_at hl 1 rfl) ?_
  obtain ⟨y1, σ2, hcy1, hf⟩ := bnd2_some hf
  refine cVi (As := [.int x1]) (rest := []) hC (k_LT_isTree l ad cI cJ cZ hcy1) yy_X7_isTree tw_461 rfl rfl ⟨by decide, by decide⟩ hP hS (q0 := 0) (ci := 7) rfl rfl (xwa_0 ..) rfl hl.1 rfl (Nat.le_of_ble_eq_true rfl) dX7_breaks_2 (fun H locs hP hS => ?_)
  refine lv_if_ne (tgt := 10) hx hb dX7_breaks_5 (by decide) (fun c3 => ?_) (fun c3 => ?_)
  · rw [if_neg c3] at hf
    refine lv_aload_n hx hb dX7_breaks_10 rfl (lv_at hl 0 rfl) ?_
    refine xg_0_2 hC hP tw_361 dX7_breaks_11 ?_
    refine lv_iload_n hx hb dX7_breaks_14 rfl (lv_at hl 1 rfl) ?_
    obtain ⟨σ4, hcσ4, hf⟩ := bnd_some hf
    refine cVv (As := [.int x1]) (rest := []) hC (k_Sh_walk l ad cI cJ cZ hcσ4) yy_X4_walk tw_515 rfl rfl ⟨by decide, by decide⟩ hP hS (q0 := 3) (ci := 4) rfl rfl (xwa_3 ..) rfl hl.1 rfl (Nat.le_of_ble_eq_true rfl) dX7_breaks_15 (fun H locs hP hS => ?_)
    refine lv_aload_n hx hb dX7_breaks_18 rfl (lv_at hl 0 rfl) ?_
    refine xg_0_1 hC hP tw_360 dX7_breaks_19 ?_
    refine lv_aload_n hx hb dX7_breaks_22 rfl (lv_at hl 0 rfl) ?_
    refine xg_0_0 hC hP tw_359 dX7_breaks_23 ?_
    refine lv_iload_n hx hb dX7_breaks_26 rfl (lv_at hl 1 rfl) ?_
    refine lv_aload_n hx hb dX7_breaks_27 rfl (lv_at hl 0 rfl) ?_
    refine xg_0_2 hC hP tw_361 dX7_breaks_28 ?_
    refine xg_3_1 hC hP tw_163 dX7_breaks_31 ?_
    refine lv_aload_n hx hb dX7_breaks_34 rfl (lv_at hl 0 rfl) ?_
    refine xg_0_2 hC hP tw_361 dX7_breaks_35 ?_
    refine xg_3_2 hC hP tw_166 dX7_breaks_38 ?_
    refine lv_aload_n hx hb dX7_breaks_41 rfl (lv_at hl 0 rfl) ?_
    refine xg_0_2 hC hP tw_361 dX7_breaks_42 ?_
    refine xg_3_3 hC hP tw_169 dX7_breaks_45 ?_
    obtain ⟨y5, hcy5, hf⟩ := bnd_some hf
    refine cVi (As := [.ref (ad 1), .int x1, .int (σ4.1 12), .int (σ4.1 13), .int (σ4.1 14)]) (rest := []) hC (k_Lim_brokenBy l ad cI cJ cZ hcy5) yy_X1_brokenBy tw_535 rfl rfl ⟨by decide, by decide⟩ hP hS (q0 := 2) (ci := 1) rfl rfl (xwa_2 ..) rfl hl.1 rfl (Nat.le_of_ble_eq_true rfl) dX7_breaks_48 (fun H locs hP hS => ?_)
    obtain ⟨h1, h2⟩ := ret2 hf
    exact retI hx hb hr hlocks hP hS h1 h2 dX7_breaks_51
  rw [if_pos c3] at hf
  refine lv_iconst (v := (-1)) hx hb dX7_breaks_8 (by decide) ?_
  obtain ⟨h1, h2⟩ := ret2 hf
  exact retI hx hb hr hlocks hP hS h1 h2 dX7_breaks_9
theorem dX7_measure_0 : decode cX7_measure 0 = .ok (.aload_n 0, 1) := by decide +kernel
theorem dX7_measure_1 : decode cX7_measure 1 = .ok (.iload_n 1, 1) := by decide +kernel
theorem dX7_measure_2 : decode cX7_measure 2 = .ok (.invokevirtual 124, 3) := by decide +kernel
theorem dX7_measure_5 : decode cX7_measure 5 = .ok (.ifCond .ne 5, 3) := by decide +kernel
theorem dX7_measure_8 : decode cX7_measure 8 = .ok (.iconst (-1), 1) := by decide +kernel
theorem dX7_measure_9 : decode cX7_measure 9 = .ok (.ireturn, 1) := by decide +kernel
theorem dX7_measure_10 : decode cX7_measure 10 = .ok (.aload_n 0, 1) := by decide +kernel
theorem dX7_measure_11 : decode cX7_measure 11 = .ok (.getfield 28, 3) := by decide +kernel
theorem dX7_measure_14 : decode cX7_measure 14 = .ok (.iload_n 1, 1) := by decide +kernel
theorem dX7_measure_15 : decode cX7_measure 15 = .ok (.invokevirtual 127, 3) := by decide +kernel
theorem dX7_measure_18 : decode cX7_measure 18 = .ok (.iload_n 2, 1) := by decide +kernel
theorem dX7_measure_19 : decode cX7_measure 19 = .ok (.tableswitch 87 0 5 #[37, 45, 54, 62, 70, 79], 37) := by decide +kernel
theorem dX7_measure_56 : decode cX7_measure 56 = .ok (.aload_n 0, 1) := by decide +kernel
theorem dX7_measure_57 : decode cX7_measure 57 = .ok (.getfield 28, 3) := by decide +kernel
theorem dX7_measure_60 : decode cX7_measure 60 = .ok (.getfield 137, 3) := by decide +kernel
theorem dX7_measure_63 : decode cX7_measure 63 = .ok (.ireturn, 1) := by decide +kernel
theorem dX7_measure_64 : decode cX7_measure 64 = .ok (.aload_n 0, 1) := by decide +kernel
theorem dX7_measure_65 : decode cX7_measure 65 = .ok (.getfield 12, 3) := by decide +kernel
theorem dX7_measure_68 : decode cX7_measure 68 = .ok (.iload_n 1, 1) := by decide +kernel
theorem dX7_measure_69 : decode cX7_measure 69 = .ok (.invokevirtual 139, 3) := by decide +kernel
theorem dX7_measure_72 : decode cX7_measure 72 = .ok (.ireturn, 1) := by decide +kernel
theorem dX7_measure_73 : decode cX7_measure 73 = .ok (.aload_n 0, 1) := by decide +kernel
theorem dX7_measure_74 : decode cX7_measure 74 = .ok (.getfield 28, 3) := by decide +kernel
theorem dX7_measure_77 : decode cX7_measure 77 = .ok (.getfield 130, 3) := by decide +kernel
theorem dX7_measure_80 : decode cX7_measure 80 = .ok (.ireturn, 1) := by decide +kernel
theorem dX7_measure_81 : decode cX7_measure 81 = .ok (.aload_n 0, 1) := by decide +kernel
theorem dX7_measure_82 : decode cX7_measure 82 = .ok (.getfield 28, 3) := by decide +kernel
theorem dX7_measure_85 : decode cX7_measure 85 = .ok (.getfield 131, 3) := by decide +kernel
theorem dX7_measure_88 : decode cX7_measure 88 = .ok (.ireturn, 1) := by decide +kernel
theorem dX7_measure_89 : decode cX7_measure 89 = .ok (.aload_n 0, 1) := by decide +kernel
theorem dX7_measure_90 : decode cX7_measure 90 = .ok (.getfield 12, 3) := by decide +kernel
theorem dX7_measure_93 : decode cX7_measure 93 = .ok (.iload_n 1, 1) := by decide +kernel
theorem dX7_measure_94 : decode cX7_measure 94 = .ok (.invokevirtual 143, 3) := by decide +kernel
theorem dX7_measure_97 : decode cX7_measure 97 = .ok (.ireturn, 1) := by decide +kernel
theorem dX7_measure_98 : decode cX7_measure 98 = .ok (.aload_n 0, 1) := by decide +kernel
theorem dX7_measure_99 : decode cX7_measure 99 = .ok (.getfield 28, 3) := by decide +kernel
theorem dX7_measure_102 : decode cX7_measure 102 = .ok (.getfield 132, 3) := by decide +kernel
theorem dX7_measure_105 : decode cX7_measure 105 = .ok (.ireturn, 1) := by decide +kernel
theorem dX7_measure_106 : decode cX7_measure 106 = .ok (.iconst (-1), 1) := by decide +kernel
theorem dX7_measure_107 : decode cX7_measure 107 = .ok (.ireturn, 1) := by decide +kernel
def LT_measure (N : Nat) (x1 : Int32) (x2 : Int32) (σ0 : St) : Option (Int32 × St) := bnd2 (LT_isTree N x1 σ0) (fun y1 σ2 => if y1 = 0 then some ((-1), σ2) else bnd (Sh_walk N x1 σ2) (fun σ4 => if x2 = 0 then some ((σ4.1 11), σ4) else (if x2 = 1 then bnd (Net_mostLinesAtAPost N x1 σ4) (fun y7 => some (y7, σ4)) else (if x2 = 2 then some ((σ4.1 12), σ4) else (if x2 = 3 then some ((σ4.1 13), σ4) else (if x2 = 4 then some ((Net_redsIn x1 σ4), σ4) else (if x2 = 5 then some ((σ4.1 14), σ4) else (some ((-1), σ4)))))))))
abbrev rm_LT_measure : Room := { frames := 13, cells := 0, slots := 0, locals := 332 }
set_option maxHeartbeats 4000000 in
set_option maxRecDepth 100000 in
theorem k_LT_measure (l : Launch) (ad : Nat → Nat) (cI cJ cZ : ClassId) {N : Nat} {x1 : Int32} {x2 : Int32} {σ0 : St} {r : Int32} {τ : St} (hf : LT_measure N x1 x2 σ0 = some (r, τ)) : CtI l yX7_measure (gws (.code yX7_measure cX7_measure 3 (some .int))) (rm_LT_measure) (ty3 cI cJ cZ) (xw ad cI cJ) [.ref (ad 0), .int x1, .int x2] σ0 r τ := by
  refine CtI.of (by decide) (xw_ok ad cI cJ) (Nat.le_of_ble_eq_true rfl) ?_
  generalize hav : ([.ref (ad 0), .int x1, .int x2] : List Value) = av
  intro p e s m below meth c D A hC ls hl hP hS
  obtain ⟨hx, hb, hr, hlocks, hml, hown, hts, hK, hN, hD, hA⟩ := id hC
  rw [← hav] at hl
  have hl : lv_has ls 3 [(0, .ref (ad 0)), (1, .int x1), (2, .int x2)] := hl
  unfold LT_measure at hf
  obtain ⟨H, hH⟩ : ∃ z, z = s.heap := ⟨_, rfl⟩
  obtain ⟨locs, hlocs⟩ : ∃ z : List Loc, z = [] := ⟨_, rfl⟩
  rw [← hH] at hP
  have hS : va_S A s.heap H locs := by rw [hH, hlocs]; exact va_S.rf
  suffices hgoal : W p l e _ s m _ below meth c H locs 0 0 _ _ by rw [hH, hlocs] at hgoal; exact hgoal
  refine lv_aload_n hx hb dX7_measure_0 rfl (lv_at hl 0 rfl) ?_
  refine lv_iload_n hx hb dX7_measure_1 rfl (lv_at hl 1 rfl) ?_
  obtain ⟨y1, σ2, hcy1, hf⟩ := bnd2_some hf
  refine cVi (As := [.int x1]) (rest := []) hC (k_LT_isTree l ad cI cJ cZ hcy1) yy_X7_isTree tw_461 rfl rfl ⟨by decide, by decide⟩ hP hS (q0 := 0) (ci := 7) rfl rfl (xwa_0 ..) rfl hl.1 rfl (Nat.le_of_ble_eq_true rfl) dX7_measure_2 (fun H locs hP hS => ?_)
  refine lv_if_ne (tgt := 10) hx hb dX7_measure_5 (by decide) (fun c3 => ?_) (fun c3 => ?_)
  · rw [if_neg c3] at hf
    refine lv_aload_n hx hb dX7_measure_10 rfl (lv_at hl 0 rfl) ?_
    refine xg_0_2 hC hP tw_361 dX7_measure_11 ?_
    refine lv_iload_n hx hb dX7_measure_14 rfl (lv_at hl 1 rfl) ?_
    obtain ⟨σ4, hcσ4, hf⟩ := bnd_some hf
    refine cVv (As := [.int x1]) (rest := []) hC (k_Sh_walk l ad cI cJ cZ hcσ4) yy_X4_walk tw_515 rfl rfl ⟨by decide, by decide⟩ hP hS (q0 := 3) (ci := 4) rfl rfl (xwa_3 ..) rfl hl.1 rfl (Nat.le_of_ble_eq_true rfl) dX7_measure_15 (fun H locs hP hS => ?_)
    refine lv_iload_n hx hb dX7_measure_18 rfl (lv_at hl 2 rfl) ?_
    by_cases c5 : x2 = 0
    · rw [if_pos c5] at hf
      refine lv_tableIn (tgt := 56) hx hb dX7_measure_19 (by rw [c5]; decide) (by rw [c5]; decide) (by rw [c5]; rfl) (by decide) ?_
      refine lv_aload_n hx hb dX7_measure_56 rfl (lv_at hl 0 rfl) ?_
      refine xg_0_2 hC hP tw_361 dX7_measure_57 ?_
      refine xg_3_0 hC hP tw_160 dX7_measure_60 ?_
      obtain ⟨h1, h2⟩ := ret2 hf
      exact retI hx hb hr hlocks hP hS h1 h2 dX7_measure_63
    rw [if_neg c5] at hf
    by_cases c6 : x2 = 1
    · rw [if_pos c6] at hf
      refine lv_tableIn (tgt := 64) hx hb dX7_measure_19 (by rw [c6]; decide) (by rw [c6]; decide) (by rw [c6]; rfl) (by decide) ?_
      refine lv_aload_n hx hb dX7_measure_64 rfl (lv_at hl 0 rfl) ?_
      refine xg_0_0 hC hP tw_359 dX7_measure_65 ?_
      refine lv_iload_n hx hb dX7_measure_68 rfl (lv_at hl 1 rfl) ?_
      obtain ⟨y7, hcy7, hf⟩ := bnd_some hf
      refine cVi (As := [.int x1]) (rest := []) hC (k_Net_mostLinesAtAPost l ad cI cJ cZ hcy7) yy_X2_mostLinesAtAPost tw_554 rfl rfl ⟨by decide, by decide⟩ hP hS (q0 := 1) (ci := 2) rfl rfl (xwa_1 ..) rfl hl.1 rfl (Nat.le_of_ble_eq_true rfl) dX7_measure_69 (fun H locs hP hS => ?_)
      obtain ⟨h1, h2⟩ := ret2 hf
      exact retI hx hb hr hlocks hP hS h1 h2 dX7_measure_72
    rw [if_neg c6] at hf
    by_cases c8 : x2 = 2
    · rw [if_pos c8] at hf
      refine lv_tableIn (tgt := 73) hx hb dX7_measure_19 (by rw [c8]; decide) (by rw [c8]; decide) (by rw [c8]; rfl) (by decide) ?_
      refine lv_aload_n hx hb dX7_measure_73 rfl (lv_at hl 0 rfl) ?_
      refine xg_0_2 hC hP tw_361 dX7_measure_74 ?_
      refine xg_3_1 hC hP tw_163 dX7_measure_77 ?_
      obtain ⟨h1, h2⟩ := ret2 hf
      exact retI hx hb hr hlocks hP hS h1 h2 dX7_measure_80
    rw [if_neg c8] at hf
    by_cases c9 : x2 = 3
    · rw [if_pos c9] at hf
      refine lv_tableIn (tgt := 81) hx hb dX7_measure_19 (by rw [c9]; decide) (by rw [c9]; decide) (by rw [c9]; rfl) (by decide) ?_
      refine lv_aload_n hx hb dX7_measure_81 rfl (lv_at hl 0 rfl) ?_
      refine xg_0_2 hC hP tw_361 dX7_measure_82 ?_
      refine xg_3_2 hC hP tw_166 dX7_measure_85 ?_
      obtain ⟨h1, h2⟩ := ret2 hf
      exact retI hx hb hr hlocks hP hS h1 h2 dX7_measure_88
    rw [if_neg c9] at hf
    by_cases c10 : x2 = 4
    · rw [if_pos c10] at hf
      refine lv_tableIn (tgt := 89) hx hb dX7_measure_19 (by rw [c10]; decide) (by rw [c10]; decide) (by rw [c10]; rfl) (by decide) ?_
      refine lv_aload_n hx hb dX7_measure_89 rfl (lv_at hl 0 rfl) ?_
      refine xg_0_0 hC hP tw_359 dX7_measure_90 ?_
      refine lv_iload_n hx hb dX7_measure_93 rfl (lv_at hl 1 rfl) ?_
      refine cVi (As := [.int x1]) (rest := []) hC (k_Net_redsIn l ad cI cJ cZ rfl) yy_X2_redsIn tw_559 rfl rfl ⟨by decide, by decide⟩ hP hS (q0 := 1) (ci := 2) rfl rfl (xwa_1 ..) rfl hl.1 rfl (Nat.le_of_ble_eq_true rfl) dX7_measure_94 (fun H locs hP hS => ?_)
      obtain ⟨h1, h2⟩ := ret2 hf
      exact retI hx hb hr hlocks hP hS h1 h2 dX7_measure_97
    rw [if_neg c10] at hf
    by_cases c11 : x2 = 5
    · rw [if_pos c11] at hf
      refine lv_tableIn (tgt := 98) hx hb dX7_measure_19 (by rw [c11]; decide) (by rw [c11]; decide) (by rw [c11]; rfl) (by decide) ?_
      refine lv_aload_n hx hb dX7_measure_98 rfl (lv_at hl 0 rfl) ?_
      refine xg_0_2 hC hP tw_361 dX7_measure_99 ?_
      refine xg_3_3 hC hP tw_169 dX7_measure_102 ?_
      obtain ⟨h1, h2⟩ := ret2 hf
      exact retI hx hb hr hlocks hP hS h1 h2 dX7_measure_105
    rw [if_neg c11] at hf
    refine lv_tableOut (tgt := 106) hx hb dX7_measure_19 (sw_out6 c5 c6 c8 c9 c10 c11) (by decide) ?_
    refine lv_iconst (v := (-1)) hx hb dX7_measure_106 (by decide) ?_
    obtain ⟨h1, h2⟩ := ret2 hf
    exact retI hx hb hr hlocks hP hS h1 h2 dX7_measure_107
  rw [if_pos c3] at hf
  refine lv_iconst (v := (-1)) hx hb dX7_measure_8 (by decide) ?_
  obtain ⟨h1, h2⟩ := ret2 hf
  exact retI hx hb hr hlocks hP hS h1 h2 dX7_measure_9
theorem dX7_many_0 : decode cX7_many 0 = .ok (.aload_n 0, 1) := by decide +kernel
theorem dX7_many_1 : decode cX7_many 1 = .ok (.invokevirtual 146, 3) := by decide +kernel
theorem dX7_many_4 : decode cX7_many 4 = .ok (.aload_n 0, 1) := by decide +kernel
theorem dX7_many_5 : decode cX7_many 5 = .ok (.getfield 44, 3) := by decide +kernel
theorem dX7_many_8 : decode cX7_many 8 = .ok (.getfield 149, 3) := by decide +kernel
theorem dX7_many_11 : decode cX7_many 11 = .ok (.ireturn, 1) := by decide +kernel
def LT_many (N : Nat)  (σ0 : St) : Option (Int32 × St) := bnd (LT_judge N σ0) (fun σ1 => some ((σ1.1 18), σ1))
abbrev rm_LT_many : Room := { frames := 14, cells := 0, slots := 0, locals := 374 }
set_option maxHeartbeats 4000000 in
set_option maxRecDepth 100000 in
theorem k_LT_many (l : Launch) (ad : Nat → Nat) (cI cJ cZ : ClassId) {N : Nat}  {σ0 : St} {r : Int32} {τ : St} (hf : LT_many N σ0 = some (r, τ)) : CtI l yX7_many (gws (.code yX7_many cX7_many 1 (some .int))) (rm_LT_many) (ty3 cI cJ cZ) (xw ad cI cJ) [.ref (ad 0)] σ0 r τ := by
  refine CtI.of (by decide) (xw_ok ad cI cJ) (Nat.le_of_ble_eq_true rfl) ?_
  generalize hav : ([.ref (ad 0)] : List Value) = av
  intro p e s m below meth c D A hC ls hl hP hS
  obtain ⟨hx, hb, hr, hlocks, hml, hown, hts, hK, hN, hD, hA⟩ := id hC
  rw [← hav] at hl
  have hl : lv_has ls 1 [(0, .ref (ad 0))] := hl
  unfold LT_many at hf
  obtain ⟨H, hH⟩ : ∃ z, z = s.heap := ⟨_, rfl⟩
  obtain ⟨locs, hlocs⟩ : ∃ z : List Loc, z = [] := ⟨_, rfl⟩
  rw [← hH] at hP
  have hS : va_S A s.heap H locs := by rw [hH, hlocs]; exact va_S.rf
  suffices hgoal : W p l e _ s m _ below meth c H locs 0 0 _ _ by rw [hH, hlocs] at hgoal; exact hgoal
  refine lv_aload_n hx hb dX7_many_0 rfl (lv_at hl 0 rfl) ?_
  obtain ⟨σ1, hcσ1, hf⟩ := bnd_some hf
  refine cVv (As := []) (rest := []) hC (k_LT_judge l ad cI cJ cZ hcσ1) yy_X7_judge tw_564 rfl rfl ⟨by decide, by decide⟩ hP hS (q0 := 0) (ci := 7) rfl rfl (xwa_0 ..) rfl hl.1 rfl (Nat.le_of_ble_eq_true rfl) dX7_many_1 (fun H locs hP hS => ?_)
  refine lv_aload_n hx hb dX7_many_4 rfl (lv_at hl 0 rfl) ?_
  refine xg_0_4 hC hP tw_363 dX7_many_5 ?_
  refine xg_6_1 hC hP tw_257 dX7_many_8 ?_
  obtain ⟨h1, h2⟩ := ret2 hf
  exact retI hx hb hr hlocks hP hS h1 h2 dX7_many_11
theorem dX7_good_0 : decode cX7_good 0 = .ok (.aload_n 0, 1) := by decide +kernel
theorem dX7_good_1 : decode cX7_good 1 = .ok (.invokevirtual 146, 3) := by decide +kernel
theorem dX7_good_4 : decode cX7_good 4 = .ok (.iload_n 1, 1) := by decide +kernel
theorem dX7_good_5 : decode cX7_good 5 = .ok (.iconst 0, 1) := by decide +kernel
theorem dX7_good_6 : decode cX7_good 6 = .ok (.aload_n 0, 1) := by decide +kernel
theorem dX7_good_7 : decode cX7_good 7 = .ok (.getfield 44, 3) := by decide +kernel
theorem dX7_good_10 : decode cX7_good 10 = .ok (.getfield 149, 3) := by decide +kernel
theorem dX7_good_13 : decode cX7_good 13 = .ok (.iconst 1, 1) := by decide +kernel
theorem dX7_good_14 : decode cX7_good 14 = .ok (.isub, 1) := by decide +kernel
theorem dX7_good_15 : decode cX7_good 15 = .ok (.invokestatic 61, 3) := by decide +kernel
theorem dX7_good_18 : decode cX7_good 18 = .ok (.ifCond .eq 23, 3) := by decide +kernel
theorem dX7_good_21 : decode cX7_good 21 = .ok (.aload_n 0, 1) := by decide +kernel
theorem dX7_good_22 : decode cX7_good 22 = .ok (.getfield 35, 3) := by decide +kernel
theorem dX7_good_25 : decode cX7_good 25 = .ok (.getfield 152, 3) := by decide +kernel
theorem dX7_good_28 : decode cX7_good 28 = .ok (.aload_n 0, 1) := by decide +kernel
theorem dX7_good_29 : decode cX7_good 29 = .ok (.getfield 44, 3) := by decide +kernel
theorem dX7_good_32 : decode cX7_good 32 = .ok (.getfield 155, 3) := by decide +kernel
theorem dX7_good_35 : decode cX7_good 35 = .ok (.iload_n 1, 1) := by decide +kernel
theorem dX7_good_36 : decode cX7_good 36 = .ok (.iaload, 1) := by decide +kernel
theorem dX7_good_37 : decode cX7_good 37 = .ok (.iaload, 1) := by decide +kernel
theorem dX7_good_38 : decode cX7_good 38 = .ok (.goto 4, 3) := by decide +kernel
theorem dX7_good_41 : decode cX7_good 41 = .ok (.iconst (-1), 1) := by decide +kernel
theorem dX7_good_42 : decode cX7_good 42 = .ok (.ireturn, 1) := by decide +kernel
def LT_good (N : Nat) (x1 : Int32) (σ0 : St) : Option (Int32 × St) := bnd (LT_judge N σ0) (fun σ1 => if (LT_within x1 0 ((σ1.1 18) - 1)) = 0 then some ((-1), σ1) else grd (inb x1 1280) (grd (inb (σ1.2.1 13 (x1).toNatClampNeg) 1280) (some ((σ1.2.1 6 ((σ1.2.1 13 (x1).toNatClampNeg)).toNatClampNeg), σ1))))
abbrev rm_LT_good : Room := { frames := 14, cells := 0, slots := 0, locals := 374 }
set_option maxHeartbeats 4000000 in
set_option maxRecDepth 100000 in
theorem k_LT_good (l : Launch) (ad : Nat → Nat) (cI cJ cZ : ClassId) {N : Nat} {x1 : Int32} {σ0 : St} {r : Int32} {τ : St} (hf : LT_good N x1 σ0 = some (r, τ)) : CtI l yX7_good (gws (.code yX7_good cX7_good 2 (some .int))) (rm_LT_good) (ty3 cI cJ cZ) (xw ad cI cJ) [.ref (ad 0), .int x1] σ0 r τ := by
  refine CtI.of (by decide) (xw_ok ad cI cJ) (Nat.le_of_ble_eq_true rfl) ?_
  generalize hav : ([.ref (ad 0), .int x1] : List Value) = av
  intro p e s m below meth c D A hC ls hl hP hS
  obtain ⟨hx, hb, hr, hlocks, hml, hown, hts, hK, hN, hD, hA⟩ := id hC
  rw [← hav] at hl
  have hl : lv_has ls 2 [(0, .ref (ad 0)), (1, .int x1)] := hl
  unfold LT_good at hf
  obtain ⟨H, hH⟩ : ∃ z, z = s.heap := ⟨_, rfl⟩
  obtain ⟨locs, hlocs⟩ : ∃ z : List Loc, z = [] := ⟨_, rfl⟩
  rw [← hH] at hP
  have hS : va_S A s.heap H locs := by rw [hH, hlocs]; exact va_S.rf
  suffices hgoal : W p l e _ s m _ below meth c H locs 0 0 _ _ by rw [hH, hlocs] at hgoal; exact hgoal
  refine lv_aload_n hx hb dX7_good_0 rfl (lv_at hl 0 rfl) ?_
  obtain ⟨σ1, hcσ1, hf⟩ := bnd_some hf
  refine cVv (As := []) (rest := []) hC (k_LT_judge l ad cI cJ cZ hcσ1) yy_X7_judge tw_564 rfl rfl ⟨by decide, by decide⟩ hP hS (q0 := 0) (ci := 7) rfl rfl (xwa_0 ..) rfl hl.1 rfl (Nat.le_of_ble_eq_true rfl) dX7_good_1 (fun H locs hP hS => ?_)
  refine lv_iload_n hx hb dX7_good_4 rfl (lv_at hl 1 rfl) ?_
  refine lv_iconst (v := 0) hx hb dX7_good_5 (by decide) ?_
  refine lv_aload_n hx hb dX7_good_6 rfl (lv_at hl 0 rfl) ?_
  refine xg_0_4 hC hP tw_363 dX7_good_7 ?_
  refine xg_6_1 hC hP tw_257 dX7_good_10 ?_
  refine lv_iconst (v := 1) hx hb dX7_good_13 (by decide) ?_
  refine lv_isub hx hb dX7_good_14 ?_
  refine cSi (As := [.int x1, .int 0, .int ((σ1.1 18) - 1)]) (rest := []) hC (k_LT_within l (xw ad cI cJ) (xw_ok ad cI cJ) (ty3 cI cJ cZ) _ rfl) yy_X7_within tw_382 rfl rfl ⟨by decide, by decide⟩ hP hS rfl hl.1 rfl (Nat.le_of_ble_eq_true rfl) dX7_good_15 (fun H locs hP hS => ?_)
  refine lv_if_eq (tgt := 41) hx hb dX7_good_18 (by decide) (fun c2 => ?_) (fun c2 => ?_)
  · rw [if_pos c2] at hf
    refine lv_iconst (v := (-1)) hx hb dX7_good_41 (by decide) ?_
    obtain ⟨h1, h2⟩ := ret2 hf
    exact retI hx hb hr hlocks hP hS h1 h2 dX7_good_42
  rw [if_neg c2] at hf
  refine lv_aload_n hx hb dX7_good_21 rfl (lv_at hl 0 rfl) ?_
  refine xg_0_3 hC hP tw_362 dX7_good_22 ?_
  refine xg_4_0 hC hP tw_202 dX7_good_25 ?_
  refine lv_aload_n hx hb dX7_good_28 rfl (lv_at hl 0 rfl) ?_
  refine xg_0_4 hC hP tw_363 dX7_good_29 ?_
  refine xg_6_0 hC hP tw_254 dX7_good_32 ?_
  refine lv_iload_n hx hb dX7_good_35 rfl (lv_at hl 1 rfl) ?_
  obtain ⟨g3, hf⟩ := grd_some hf
  refine xl_22 hC hP g3 dX7_good_36 ?_
  obtain ⟨g4, hf⟩ := grd_some hf
  refine xl_15 hC hP g4 dX7_good_37 ?_
  refine lv_goto (tgt := 42) hx hb dX7_good_38 (by decide) ?_
  obtain ⟨h1, h2⟩ := ret2 hf
  exact retI hx hb hr hlocks hP hS h1 h2 dX7_good_42
theorem dX7_ranked_0 : decode cX7_ranked 0 = .ok (.aload_n 0, 1) := by decide +kernel
theorem dX7_ranked_1 : decode cX7_ranked 1 = .ok (.invokevirtual 146, 3) := by decide +kernel
theorem dX7_ranked_4 : decode cX7_ranked 4 = .ok (.iload_n 1, 1) := by decide +kernel
theorem dX7_ranked_5 : decode cX7_ranked 5 = .ok (.iconst 0, 1) := by decide +kernel
theorem dX7_ranked_6 : decode cX7_ranked 6 = .ok (.aload_n 0, 1) := by decide +kernel
theorem dX7_ranked_7 : decode cX7_ranked 7 = .ok (.getfield 44, 3) := by decide +kernel
theorem dX7_ranked_10 : decode cX7_ranked 10 = .ok (.getfield 149, 3) := by decide +kernel
theorem dX7_ranked_13 : decode cX7_ranked 13 = .ok (.iconst 1, 1) := by decide +kernel
theorem dX7_ranked_14 : decode cX7_ranked 14 = .ok (.isub, 1) := by decide +kernel
theorem dX7_ranked_15 : decode cX7_ranked 15 = .ok (.invokestatic 61, 3) := by decide +kernel
theorem dX7_ranked_18 : decode cX7_ranked 18 = .ok (.ifCond .eq 22, 3) := by decide +kernel
theorem dX7_ranked_21 : decode cX7_ranked 21 = .ok (.aload_n 0, 1) := by decide +kernel
theorem dX7_ranked_22 : decode cX7_ranked 22 = .ok (.getfield 35, 3) := by decide +kernel
theorem dX7_ranked_25 : decode cX7_ranked 25 = .ok (.getfield 152, 3) := by decide +kernel
theorem dX7_ranked_28 : decode cX7_ranked 28 = .ok (.aload_n 0, 1) := by decide +kernel
theorem dX7_ranked_29 : decode cX7_ranked 29 = .ok (.getfield 44, 3) := by decide +kernel
theorem dX7_ranked_32 : decode cX7_ranked 32 = .ok (.iload_n 1, 1) := by decide +kernel
theorem dX7_ranked_33 : decode cX7_ranked 33 = .ok (.invokevirtual 158, 3) := by decide +kernel
theorem dX7_ranked_36 : decode cX7_ranked 36 = .ok (.iaload, 1) := by decide +kernel
theorem dX7_ranked_37 : decode cX7_ranked 37 = .ok (.goto 4, 3) := by decide +kernel
theorem dX7_ranked_40 : decode cX7_ranked 40 = .ok (.iconst (-1), 1) := by decide +kernel
theorem dX7_ranked_41 : decode cX7_ranked 41 = .ok (.ireturn, 1) := by decide +kernel
def LT_ranked (N : Nat) (x1 : Int32) (σ0 : St) : Option (Int32 × St) := bnd (LT_judge N σ0) (fun σ1 => if (LT_within x1 0 ((σ1.1 18) - 1)) = 0 then some ((-1), σ1) else bnd2 (GT_placeRanked N x1 σ1) (fun y3 σ4 => grd (inb y3 1280) (some ((σ4.2.1 6 (y3).toNatClampNeg), σ4))))
abbrev rm_LT_ranked : Room := { frames := 14, cells := 0, slots := 0, locals := 374 }
set_option maxHeartbeats 4000000 in
set_option maxRecDepth 100000 in
theorem k_LT_ranked (l : Launch) (ad : Nat → Nat) (cI cJ cZ : ClassId) {N : Nat} {x1 : Int32} {σ0 : St} {r : Int32} {τ : St} (hf : LT_ranked N x1 σ0 = some (r, τ)) : CtI l yX7_ranked (gws (.code yX7_ranked cX7_ranked 2 (some .int))) (rm_LT_ranked) (ty3 cI cJ cZ) (xw ad cI cJ) [.ref (ad 0), .int x1] σ0 r τ := by
  refine CtI.of (by decide) (xw_ok ad cI cJ) (Nat.le_of_ble_eq_true rfl) ?_
  generalize hav : ([.ref (ad 0), .int x1] : List Value) = av
  intro p e s m below meth c D A hC ls hl hP hS
  obtain ⟨hx, hb, hr, hlocks, hml, hown, hts, hK, hN, hD, hA⟩ := id hC
  rw [← hav] at hl
  have hl : lv_has ls 2 [(0, .ref (ad 0)), (1, .int x1)] := hl
  unfold LT_ranked at hf
  obtain ⟨H, hH⟩ : ∃ z, z = s.heap := ⟨_, rfl⟩
  obtain ⟨locs, hlocs⟩ : ∃ z : List Loc, z = [] := ⟨_, rfl⟩
  rw [← hH] at hP
  have hS : va_S A s.heap H locs := by rw [hH, hlocs]; exact va_S.rf
  suffices hgoal : W p l e _ s m _ below meth c H locs 0 0 _ _ by rw [hH, hlocs] at hgoal; exact hgoal
  refine lv_aload_n hx hb dX7_ranked_0 rfl (lv_at hl 0 rfl) ?_
  obtain ⟨σ1, hcσ1, hf⟩ := bnd_some hf
  refine cVv (As := []) (rest := []) hC (k_LT_judge l ad cI cJ cZ hcσ1) yy_X7_judge tw_564 rfl rfl ⟨by decide, by decide⟩ hP hS (q0 := 0) (ci := 7) rfl rfl (xwa_0 ..) rfl hl.1 rfl (Nat.le_of_ble_eq_true rfl) dX7_ranked_1 (fun H locs hP hS => ?_)
  refine lv_iload_n hx hb dX7_ranked_4 rfl (lv_at hl 1 rfl) ?_
  refine lv_iconst (v := 0) hx hb dX7_ranked_5 (by decide) ?_
  refine lv_aload_n hx hb dX7_ranked_6 rfl (lv_at hl 0 rfl) ?_
  refine xg_0_4 hC hP tw_363 dX7_ranked_7 ?_
  refine xg_6_1 hC hP tw_257 dX7_ranked_10 ?_
  refine lv_iconst (v := 1) hx hb dX7_ranked_13 (by decide) ?_
  refine lv_isub hx hb dX7_ranked_14 ?_
  refine cSi (As := [.int x1, .int 0, .int ((σ1.1 18) - 1)]) (rest := []) hC (k_LT_within l (xw ad cI cJ) (xw_ok ad cI cJ) (ty3 cI cJ cZ) _ rfl) yy_X7_within tw_382 rfl rfl ⟨by decide, by decide⟩ hP hS rfl hl.1 rfl (Nat.le_of_ble_eq_true rfl) dX7_ranked_15 (fun H locs hP hS => ?_)
  refine lv_if_eq (tgt := 40) hx hb dX7_ranked_18 (by decide) (fun c2 => ?_) (fun c2 => ?_)
  · rw [if_pos c2] at hf
    refine lv_iconst (v := (-1)) hx hb dX7_ranked_40 (by decide) ?_
    obtain ⟨h1, h2⟩ := ret2 hf
    exact retI hx hb hr hlocks hP hS h1 h2 dX7_ranked_41
  rw [if_neg c2] at hf
  refine lv_aload_n hx hb dX7_ranked_21 rfl (lv_at hl 0 rfl) ?_
  refine xg_0_3 hC hP tw_362 dX7_ranked_22 ?_
  refine xg_4_0 hC hP tw_202 dX7_ranked_25 ?_
  refine lv_aload_n hx hb dX7_ranked_28 rfl (lv_at hl 0 rfl) ?_
  refine xg_0_4 hC hP tw_363 dX7_ranked_29 ?_
  refine lv_iload_n hx hb dX7_ranked_32 rfl (lv_at hl 1 rfl) ?_
  obtain ⟨y3, σ4, hcy3, hf⟩ := bnd2_some hf
  refine cVi (As := [.int x1]) (rest := [.ref (ad 15)]) hC (k_GT_placeRanked l ad cI cJ cZ hcy3) yy_X0_placeRanked tw_598 rfl rfl ⟨by decide, by decide⟩ hP hS (q0 := 6) (ci := 0) rfl rfl (xwa_6 ..) rfl hl.1 rfl (Nat.le_of_ble_eq_true rfl) dX7_ranked_33 (fun H locs hP hS => ?_)
  obtain ⟨g5, hf⟩ := grd_some hf
  refine xl_15 hC hP g5 dX7_ranked_36 ?_
  refine lv_goto (tgt := 41) hx hb dX7_ranked_37 (by decide) ?_
  obtain ⟨h1, h2⟩ := ret2 hf
  exact retI hx hb hr hlocks hP hS h1 h2 dX7_ranked_41
theorem dX7_slack_0 : decode cX7_slack 0 = .ok (.aload_n 0, 1) := by decide +kernel
theorem dX7_slack_1 : decode cX7_slack 1 = .ok (.getfield 12, 3) := by decide +kernel
theorem dX7_slack_4 : decode cX7_slack 4 = .ok (.iload_n 1, 1) := by decide +kernel
theorem dX7_slack_5 : decode cX7_slack 5 = .ok (.invokevirtual 80, 3) := by decide +kernel
theorem dX7_slack_8 : decode cX7_slack 8 = .ok (.ifCond .eq 14, 3) := by decide +kernel
theorem dX7_slack_11 : decode cX7_slack 11 = .ok (.aload_n 0, 1) := by decide +kernel
theorem dX7_slack_12 : decode cX7_slack 12 = .ok (.getfield 12, 3) := by decide +kernel
theorem dX7_slack_15 : decode cX7_slack 15 = .ok (.iload_n 1, 1) := by decide +kernel
theorem dX7_slack_16 : decode cX7_slack 16 = .ok (.invokevirtual 83, 3) := by decide +kernel
theorem dX7_slack_19 : decode cX7_slack 19 = .ok (.ifCond .eq 5, 3) := by decide +kernel
theorem dX7_slack_22 : decode cX7_slack 22 = .ok (.iconst (-1), 1) := by decide +kernel
theorem dX7_slack_23 : decode cX7_slack 23 = .ok (.ireturn, 1) := by decide +kernel
theorem dX7_slack_24 : decode cX7_slack 24 = .ok (.aload_n 0, 1) := by decide +kernel
theorem dX7_slack_25 : decode cX7_slack 25 = .ok (.invokevirtual 146, 3) := by decide +kernel
theorem dX7_slack_28 : decode cX7_slack 28 = .ok (.aload_n 0, 1) := by decide +kernel
theorem dX7_slack_29 : decode cX7_slack 29 = .ok (.getfield 44, 3) := by decide +kernel
theorem dX7_slack_32 : decode cX7_slack 32 = .ok (.iload_n 1, 1) := by decide +kernel
theorem dX7_slack_33 : decode cX7_slack 33 = .ok (.invokevirtual 161, 3) := by decide +kernel
theorem dX7_slack_36 : decode cX7_slack 36 = .ok (.ireturn, 1) := by decide +kernel
def LT_slack (N : Nat) (x1 : Int32) (σ0 : St) : Option (Int32 × St) := if (Net_hasLine x1 σ0) = 0 then some ((-1), σ0) else if (Net_isCut x1 σ0) = 0 then bnd (LT_judge N σ0) (fun σ3 => bnd2 (GT_slackOf N x1 σ3) (fun y4 σ5 => some (y4, σ5))) else some ((-1), σ0)
abbrev rm_LT_slack : Room := { frames := 14, cells := 0, slots := 0, locals := 374 }
set_option maxHeartbeats 4000000 in
set_option maxRecDepth 100000 in
theorem k_LT_slack (l : Launch) (ad : Nat → Nat) (cI cJ cZ : ClassId) {N : Nat} {x1 : Int32} {σ0 : St} {r : Int32} {τ : St} (hf : LT_slack N x1 σ0 = some (r, τ)) : CtI l yX7_slack (gws (.code yX7_slack cX7_slack 2 (some .int))) (rm_LT_slack) (ty3 cI cJ cZ) (xw ad cI cJ) [.ref (ad 0), .int x1] σ0 r τ := by
  refine CtI.of (by decide) (xw_ok ad cI cJ) (Nat.le_of_ble_eq_true rfl) ?_
  generalize hav : ([.ref (ad 0), .int x1] : List Value) = av
  intro p e s m below meth c D A hC ls hl hP hS
  obtain ⟨hx, hb, hr, hlocks, hml, hown, hts, hK, hN, hD, hA⟩ := id hC
  rw [← hav] at hl
  have hl : lv_has ls 2 [(0, .ref (ad 0)), (1, .int x1)] := hl
  unfold LT_slack at hf
  obtain ⟨H, hH⟩ : ∃ z, z = s.heap := ⟨_, rfl⟩
  obtain ⟨locs, hlocs⟩ : ∃ z : List Loc, z = [] := ⟨_, rfl⟩
  rw [← hH] at hP
  have hS : va_S A s.heap H locs := by rw [hH, hlocs]; exact va_S.rf
  suffices hgoal : W p l e _ s m _ below meth c H locs 0 0 _ _ by rw [hH, hlocs] at hgoal; exact hgoal
  refine lv_aload_n hx hb dX7_slack_0 rfl (lv_at hl 0 rfl) ?_
  refine xg_0_0 hC hP tw_359 dX7_slack_1 ?_
  refine lv_iload_n hx hb dX7_slack_4 rfl (lv_at hl 1 rfl) ?_
  refine cVi (As := [.int x1]) (rest := []) hC (k_Net_hasLine l ad cI cJ cZ rfl) yy_X2_hasLine tw_401 rfl rfl ⟨by decide, by decide⟩ hP hS (q0 := 1) (ci := 2) rfl rfl (xwa_1 ..) rfl hl.1 rfl (Nat.le_of_ble_eq_true rfl) dX7_slack_5 (fun H locs hP hS => ?_)
  refine lv_if_eq (tgt := 22) hx hb dX7_slack_8 (by decide) (fun c1 => ?_) (fun c1 => ?_)
  · rw [if_pos c1] at hf
    refine lv_iconst (v := (-1)) hx hb dX7_slack_22 (by decide) ?_
    obtain ⟨h1, h2⟩ := ret2 hf
    exact retI hx hb hr hlocks hP hS h1 h2 dX7_slack_23
  rw [if_neg c1] at hf
  refine lv_aload_n hx hb dX7_slack_11 rfl (lv_at hl 0 rfl) ?_
  refine xg_0_0 hC hP tw_359 dX7_slack_12 ?_
  refine lv_iload_n hx hb dX7_slack_15 rfl (lv_at hl 1 rfl) ?_
  refine cVi (As := [.int x1]) (rest := []) hC (k_Net_isCut l ad cI cJ cZ rfl) yy_X2_isCut tw_405 rfl rfl ⟨by decide, by decide⟩ hP hS (q0 := 1) (ci := 2) rfl rfl (xwa_1 ..) rfl hl.1 rfl (Nat.le_of_ble_eq_true rfl) dX7_slack_16 (fun H locs hP hS => ?_)
  refine lv_if_eq (tgt := 24) hx hb dX7_slack_19 (by decide) (fun c2 => ?_) (fun c2 => ?_)
  · rw [if_pos c2] at hf
    refine lv_aload_n hx hb dX7_slack_24 rfl (lv_at hl 0 rfl) ?_
    obtain ⟨σ3, hcσ3, hf⟩ := bnd_some hf
    refine cVv (As := []) (rest := []) hC (k_LT_judge l ad cI cJ cZ hcσ3) yy_X7_judge tw_564 rfl rfl ⟨by decide, by decide⟩ hP hS (q0 := 0) (ci := 7) rfl rfl (xwa_0 ..) rfl hl.1 rfl (Nat.le_of_ble_eq_true rfl) dX7_slack_25 (fun H locs hP hS => ?_)
    refine lv_aload_n hx hb dX7_slack_28 rfl (lv_at hl 0 rfl) ?_
    refine xg_0_4 hC hP tw_363 dX7_slack_29 ?_
    refine lv_iload_n hx hb dX7_slack_32 rfl (lv_at hl 1 rfl) ?_
    obtain ⟨y4, σ5, hcy4, hf⟩ := bnd2_some hf
    refine cVi (As := [.int x1]) (rest := []) hC (k_GT_slackOf l ad cI cJ cZ hcy4) yy_X0_slackOf tw_615 rfl rfl ⟨by decide, by decide⟩ hP hS (q0 := 6) (ci := 0) rfl rfl (xwa_6 ..) rfl hl.1 rfl (Nat.le_of_ble_eq_true rfl) dX7_slack_33 (fun H locs hP hS => ?_)
    obtain ⟨h1, h2⟩ := ret2 hf
    exact retI hx hb hr hlocks hP hS h1 h2 dX7_slack_36
  rw [if_neg c2] at hf
  refine lv_iconst (v := (-1)) hx hb dX7_slack_22 (by decide) ?_
  obtain ⟨h1, h2⟩ := ret2 hf
  exact retI hx hb hr hlocks hP hS h1 h2 dX7_slack_23
theorem dX7_bar_0 : decode cX7_bar 0 = .ok (.aload_n 0, 1) := by decide +kernel
theorem dX7_bar_1 : decode cX7_bar 1 = .ok (.invokevirtual 146, 3) := by decide +kernel
theorem dX7_bar_4 : decode cX7_bar 4 = .ok (.aload_n 0, 1) := by decide +kernel
theorem dX7_bar_5 : decode cX7_bar 5 = .ok (.getfield 44, 3) := by decide +kernel
theorem dX7_bar_8 : decode cX7_bar 8 = .ok (.getfield 149, 3) := by decide +kernel
theorem dX7_bar_11 : decode cX7_bar 11 = .ok (.ifCond .le 7, 3) := by decide +kernel
theorem dX7_bar_14 : decode cX7_bar 14 = .ok (.iconst (-1), 1) := by decide +kernel
theorem dX7_bar_15 : decode cX7_bar 15 = .ok (.goto 10, 3) := by decide +kernel
theorem dX7_bar_18 : decode cX7_bar 18 = .ok (.aload_n 0, 1) := by decide +kernel
theorem dX7_bar_19 : decode cX7_bar 19 = .ok (.getfield 44, 3) := by decide +kernel
theorem dX7_bar_22 : decode cX7_bar 22 = .ok (.invokevirtual 164, 3) := by decide +kernel
theorem dX7_bar_25 : decode cX7_bar 25 = .ok (.ireturn, 1) := by decide +kernel
def LT_bar (N : Nat)  (σ0 : St) : Option (Int32 × St) := bnd (LT_judge N σ0) (fun σ1 => if (σ1.1 18) ≤ 0 then bnd (GT_fewestBarring N σ1) (fun y3 => some (y3, σ1)) else some ((-1), σ1))
abbrev rm_LT_bar : Room := { frames := 14, cells := 0, slots := 0, locals := 374 }
set_option maxHeartbeats 4000000 in
set_option maxRecDepth 100000 in
theorem k_LT_bar (l : Launch) (ad : Nat → Nat) (cI cJ cZ : ClassId) {N : Nat}  {σ0 : St} {r : Int32} {τ : St} (hf : LT_bar N σ0 = some (r, τ)) : CtI l yX7_bar (gws (.code yX7_bar cX7_bar 1 (some .int))) (rm_LT_bar) (ty3 cI cJ cZ) (xw ad cI cJ) [.ref (ad 0)] σ0 r τ := by
  refine CtI.of (by decide) (xw_ok ad cI cJ) (Nat.le_of_ble_eq_true rfl) ?_
  generalize hav : ([.ref (ad 0)] : List Value) = av
  intro p e s m below meth c D A hC ls hl hP hS
  obtain ⟨hx, hb, hr, hlocks, hml, hown, hts, hK, hN, hD, hA⟩ := id hC
  rw [← hav] at hl
  have hl : lv_has ls 1 [(0, .ref (ad 0))] := hl
  unfold LT_bar at hf
  obtain ⟨H, hH⟩ : ∃ z, z = s.heap := ⟨_, rfl⟩
  obtain ⟨locs, hlocs⟩ : ∃ z : List Loc, z = [] := ⟨_, rfl⟩
  rw [← hH] at hP
  have hS : va_S A s.heap H locs := by rw [hH, hlocs]; exact va_S.rf
  suffices hgoal : W p l e _ s m _ below meth c H locs 0 0 _ _ by rw [hH, hlocs] at hgoal; exact hgoal
  refine lv_aload_n hx hb dX7_bar_0 rfl (lv_at hl 0 rfl) ?_
  obtain ⟨σ1, hcσ1, hf⟩ := bnd_some hf
  refine cVv (As := []) (rest := []) hC (k_LT_judge l ad cI cJ cZ hcσ1) yy_X7_judge tw_564 rfl rfl ⟨by decide, by decide⟩ hP hS (q0 := 0) (ci := 7) rfl rfl (xwa_0 ..) rfl hl.1 rfl (Nat.le_of_ble_eq_true rfl) dX7_bar_1 (fun H locs hP hS => ?_)
  refine lv_aload_n hx hb dX7_bar_4 rfl (lv_at hl 0 rfl) ?_
  refine xg_0_4 hC hP tw_363 dX7_bar_5 ?_
  refine xg_6_1 hC hP tw_257 dX7_bar_8 ?_
  refine lv_if_le (tgt := 18) hx hb dX7_bar_11 (by decide) (fun c2 => ?_) (fun c2 => ?_)
  · rw [if_pos c2] at hf
    refine lv_aload_n hx hb dX7_bar_18 rfl (lv_at hl 0 rfl) ?_
    refine xg_0_4 hC hP tw_363 dX7_bar_19 ?_
    obtain ⟨y3, hcy3, hf⟩ := bnd_some hf
    refine cVi (As := []) (rest := []) hC (k_GT_fewestBarring l ad cI cJ cZ hcy3) yy_X0_fewestBarring tw_624 rfl rfl ⟨by decide, by decide⟩ hP hS (q0 := 6) (ci := 0) rfl rfl (xwa_6 ..) rfl hl.1 rfl (Nat.le_of_ble_eq_true rfl) dX7_bar_22 (fun H locs hP hS => ?_)
    obtain ⟨h1, h2⟩ := ret2 hf
    exact retI hx hb hr hlocks hP hS h1 h2 dX7_bar_25
  rw [if_neg c2] at hf
  refine lv_iconst (v := (-1)) hx hb dX7_bar_14 (by decide) ?_
  refine lv_goto (tgt := 25) hx hb dX7_bar_15 (by decide) ?_
  obtain ⟨h1, h2⟩ := ret2 hf
  exact retI hx hb hr hlocks hP hS h1 h2 dX7_bar_25
theorem dX7_front_0 : decode cX7_front 0 = .ok (.aload_n 0, 1) := by decide +kernel
theorem dX7_front_1 : decode cX7_front 1 = .ok (.invokevirtual 146, 3) := by decide +kernel
theorem dX7_front_4 : decode cX7_front 4 = .ok (.iload_n 1, 1) := by decide +kernel
theorem dX7_front_5 : decode cX7_front 5 = .ok (.ifCond .ge 7, 3) := by decide +kernel
theorem dX7_front_8 : decode cX7_front 8 = .ok (.iconst (-1), 1) := by decide +kernel
theorem dX7_front_9 : decode cX7_front 9 = .ok (.goto 11, 3) := by decide +kernel
theorem dX7_front_12 : decode cX7_front 12 = .ok (.aload_n 0, 1) := by decide +kernel
theorem dX7_front_13 : decode cX7_front 13 = .ok (.getfield 44, 3) := by decide +kernel
theorem dX7_front_16 : decode cX7_front 16 = .ok (.iload_n 1, 1) := by decide +kernel
theorem dX7_front_17 : decode cX7_front 17 = .ok (.invokevirtual 168, 3) := by decide +kernel
theorem dX7_front_20 : decode cX7_front 20 = .ok (.istore_n 3, 1) := by decide +kernel
theorem dX7_front_21 : decode cX7_front 21 = .ok (.iload_n 3, 1) := by decide +kernel
theorem dX7_front_22 : decode cX7_front 22 = .ok (.iconst (-1), 1) := by decide +kernel
theorem dX7_front_23 : decode cX7_front 23 = .ok (.if_icmp .ne 5, 3) := by decide +kernel
theorem dX7_front_26 : decode cX7_front 26 = .ok (.iconst (-1), 1) := by decide +kernel
theorem dX7_front_27 : decode cX7_front 27 = .ok (.ireturn, 1) := by decide +kernel
theorem dX7_front_28 : decode cX7_front 28 = .ok (.iload_n 2, 1) := by decide +kernel
theorem dX7_front_29 : decode cX7_front 29 = .ok (.tableswitch 57 0 2 #[27, 37, 47], 27) := by decide +kernel
theorem dX7_front_56 : decode cX7_front 56 = .ok (.aload_n 0, 1) := by decide +kernel
theorem dX7_front_57 : decode cX7_front 57 = .ok (.getfield 35, 3) := by decide +kernel
theorem dX7_front_60 : decode cX7_front 60 = .ok (.getfield 152, 3) := by decide +kernel
theorem dX7_front_63 : decode cX7_front 63 = .ok (.iload_n 3, 1) := by decide +kernel
theorem dX7_front_64 : decode cX7_front 64 = .ok (.iaload, 1) := by decide +kernel
theorem dX7_front_65 : decode cX7_front 65 = .ok (.ireturn, 1) := by decide +kernel
theorem dX7_front_66 : decode cX7_front 66 = .ok (.aload_n 0, 1) := by decide +kernel
theorem dX7_front_67 : decode cX7_front 67 = .ok (.getfield 35, 3) := by decide +kernel
theorem dX7_front_70 : decode cX7_front 70 = .ok (.getfield 171, 3) := by decide +kernel
theorem dX7_front_73 : decode cX7_front 73 = .ok (.iload_n 3, 1) := by decide +kernel
theorem dX7_front_74 : decode cX7_front 74 = .ok (.iaload, 1) := by decide +kernel
theorem dX7_front_75 : decode cX7_front 75 = .ok (.ireturn, 1) := by decide +kernel
theorem dX7_front_76 : decode cX7_front 76 = .ok (.aload_n 0, 1) := by decide +kernel
theorem dX7_front_77 : decode cX7_front 77 = .ok (.getfield 35, 3) := by decide +kernel
theorem dX7_front_80 : decode cX7_front 80 = .ok (.getfield 174, 3) := by decide +kernel
theorem dX7_front_83 : decode cX7_front 83 = .ok (.iload_n 3, 1) := by decide +kernel
theorem dX7_front_84 : decode cX7_front 84 = .ok (.iaload, 1) := by decide +kernel
theorem dX7_front_85 : decode cX7_front 85 = .ok (.ireturn, 1) := by decide +kernel
theorem dX7_front_86 : decode cX7_front 86 = .ok (.iconst (-1), 1) := by decide +kernel
theorem dX7_front_87 : decode cX7_front 87 = .ok (.ireturn, 1) := by decide +kernel
def LT_front_20 (N : Nat) (x2 : Int32) (t0 : Int32) (σ : St) : Option (Int32 × St) := if t0 = (-1) then some ((-1), σ) else if x2 = 0 then grd (inb t0 1280) (some ((σ.2.1 6 (t0).toNatClampNeg), σ)) else (if x2 = 1 then grd (inb t0 1280) (some ((σ.2.1 7 (t0).toNatClampNeg), σ)) else (if x2 = 2 then grd (inb t0 1280) (some ((σ.2.1 10 (t0).toNatClampNeg), σ)) else (some ((-1), σ))))
def LT_front (N : Nat) (x1 : Int32) (x2 : Int32) (σ0 : St) : Option (Int32 × St) := bnd (LT_judge N σ0) (fun σ8 => if 0 ≤ x1 then bnd2 (GT_placeOnFront N x1 σ8) (fun y10 σ11 => LT_front_20 N x2 y10 σ11) else LT_front_20 N x2 (-1) σ8)
abbrev rm_LT_front : Room := { frames := 14, cells := 0, slots := 0, locals := 374 }
set_option maxHeartbeats 4000000 in
set_option maxRecDepth 100000 in
theorem k_LT_front (l : Launch) (ad : Nat → Nat) (cI cJ cZ : ClassId) {N : Nat} {x1 : Int32} {x2 : Int32} {σ0 : St} {r : Int32} {τ : St} (hf : LT_front N x1 x2 σ0 = some (r, τ)) : CtI l yX7_front (gws (.code yX7_front cX7_front 4 (some .int))) (rm_LT_front) (ty3 cI cJ cZ) (xw ad cI cJ) [.ref (ad 0), .int x1, .int x2] σ0 r τ := by
  refine CtI.of (by decide) (xw_ok ad cI cJ) (Nat.le_of_ble_eq_true rfl) ?_
  generalize hav : ([.ref (ad 0), .int x1, .int x2] : List Value) = av
  intro p e s m below meth c D A hC ls hl hP hS
  obtain ⟨hx, hb, hr, hlocks, hml, hown, hts, hK, hN, hD, hA⟩ := id hC
  rw [← hav] at hl
  have hl : lv_has ls 4 [(0, .ref (ad 0)), (1, .int x1), (2, .int x2)] := hl
  unfold LT_front at hf
  have hw_20 : ∀ (x2 : Int32) (t0 : Int32) (σ : St) (H : Heap) (locs : List Loc) (ls : Array Slot), va_P D vwCl ((xw ad cI cJ) σ) H → va_S A s.heap H locs → lv_has ls 4 [(0, .ref (ad 0)), (2, .int x2)] → LT_front_20 N x2 t0 σ = some (r, τ) → W p l e (rm_LT_front) s m av.toArray below meth c H locs 0 0 (QI below av.toArray s D A (xw ad cI cJ) r τ) (F0 m 20 ls [.int t0]) := by
    intro x2 t0 σ H locs ls hP hS hl hf
    unfold LT_front_20 at hf
    refine lv_istore_n (lv' := [(3, .int t0), (0, .ref (ad 0)), (2, .int x2)]) hx hb dX7_front_20 rfl hl (by decide) rfl (fun ls hl => ?_)
    refine lv_iload_n hx hb dX7_front_21 rfl (lv_at hl 0 rfl) ?_
    refine lv_iconst (v := (-1)) hx hb dX7_front_22 (by decide) ?_
    refine lv_icmp_ne (tgt := 28) hx hb dX7_front_23 (by decide) (fun c1 => ?_) (fun c1 => ?_)
    · rw [if_neg c1] at hf
      refine lv_iload_n hx hb dX7_front_28 rfl (lv_at hl 2 rfl) ?_
      by_cases c2 : x2 = 0
      · rw [if_pos c2] at hf
        refine lv_tableIn (tgt := 56) hx hb dX7_front_29 (by rw [c2]; decide) (by rw [c2]; decide) (by rw [c2]; rfl) (by decide) ?_
        refine lv_aload_n hx hb dX7_front_56 rfl (lv_at hl 1 rfl) ?_
        refine xg_0_3 hC hP tw_362 dX7_front_57 ?_
        refine xg_4_0 hC hP tw_202 dX7_front_60 ?_
        refine lv_iload_n hx hb dX7_front_63 rfl (lv_at hl 0 rfl) ?_
        obtain ⟨g3, hf⟩ := grd_some hf
        refine xl_15 hC hP g3 dX7_front_64 ?_
        obtain ⟨h1, h2⟩ := ret2 hf
        exact retI hx hb hr hlocks hP hS h1 h2 dX7_front_65
      rw [if_neg c2] at hf
      by_cases c4 : x2 = 1
      · rw [if_pos c4] at hf
        refine lv_tableIn (tgt := 66) hx hb dX7_front_29 (by rw [c4]; decide) (by rw [c4]; decide) (by rw [c4]; rfl) (by decide) ?_
        refine lv_aload_n hx hb dX7_front_66 rfl (lv_at hl 1 rfl) ?_
        refine xg_0_3 hC hP tw_362 dX7_front_67 ?_
        refine xg_4_1 hC hP tw_205 dX7_front_70 ?_
        refine lv_iload_n hx hb dX7_front_73 rfl (lv_at hl 0 rfl) ?_
        obtain ⟨g5, hf⟩ := grd_some hf
        refine xl_16 hC hP g5 dX7_front_74 ?_
        obtain ⟨h1, h2⟩ := ret2 hf
        exact retI hx hb hr hlocks hP hS h1 h2 dX7_front_75
      rw [if_neg c4] at hf
      by_cases c6 : x2 = 2
      · rw [if_pos c6] at hf
        refine lv_tableIn (tgt := 76) hx hb dX7_front_29 (by rw [c6]; decide) (by rw [c6]; decide) (by rw [c6]; rfl) (by decide) ?_
        refine lv_aload_n hx hb dX7_front_76 rfl (lv_at hl 1 rfl) ?_
        refine xg_0_3 hC hP tw_362 dX7_front_77 ?_
        refine xg_4_4 hC hP tw_212 dX7_front_80 ?_
        refine lv_iload_n hx hb dX7_front_83 rfl (lv_at hl 0 rfl) ?_
        obtain ⟨g7, hf⟩ := grd_some hf
        refine xl_19 hC hP g7 dX7_front_84 ?_
        obtain ⟨h1, h2⟩ := ret2 hf
        exact retI hx hb hr hlocks hP hS h1 h2 dX7_front_85
      rw [if_neg c6] at hf
      refine lv_tableOut (tgt := 86) hx hb dX7_front_29 (sw_out3 c2 c4 c6) (by decide) ?_
      refine lv_iconst (v := (-1)) hx hb dX7_front_86 (by decide) ?_
      obtain ⟨h1, h2⟩ := ret2 hf
      exact retI hx hb hr hlocks hP hS h1 h2 dX7_front_87
    rw [if_pos c1] at hf
    refine lv_iconst (v := (-1)) hx hb dX7_front_26 (by decide) ?_
    obtain ⟨h1, h2⟩ := ret2 hf
    exact retI hx hb hr hlocks hP hS h1 h2 dX7_front_27
  obtain ⟨H, hH⟩ : ∃ z, z = s.heap := ⟨_, rfl⟩
  obtain ⟨locs, hlocs⟩ : ∃ z : List Loc, z = [] := ⟨_, rfl⟩
  rw [← hH] at hP
  have hS : va_S A s.heap H locs := by rw [hH, hlocs]; exact va_S.rf
  suffices hgoal : W p l e _ s m _ below meth c H locs 0 0 _ _ by rw [hH, hlocs] at hgoal; exact hgoal
  refine lv_aload_n hx hb dX7_front_0 rfl (lv_at hl 0 rfl) ?_
  obtain ⟨σ8, hcσ8, hf⟩ := bnd_some hf
  refine cVv (As := []) (rest := []) hC (k_LT_judge l ad cI cJ cZ hcσ8) yy_X7_judge tw_564 rfl rfl ⟨by decide, by decide⟩ hP hS (q0 := 0) (ci := 7) rfl rfl (xwa_0 ..) rfl hl.1 rfl (Nat.le_of_ble_eq_true rfl) dX7_front_1 (fun H locs hP hS => ?_)
  refine lv_iload_n hx hb dX7_front_4 rfl (lv_at hl 1 rfl) ?_
  refine lv_if_ge (tgt := 12) hx hb dX7_front_5 (by decide) (fun c9 => ?_) (fun c9 => ?_)
  · rw [if_pos c9] at hf
    refine lv_aload_n hx hb dX7_front_12 rfl (lv_at hl 0 rfl) ?_
    refine xg_0_4 hC hP tw_363 dX7_front_13 ?_
    refine lv_iload_n hx hb dX7_front_16 rfl (lv_at hl 1 rfl) ?_
    obtain ⟨y10, σ11, hcy10, hf⟩ := bnd2_some hf
    refine cVi (As := [.int x1]) (rest := []) hC (k_GT_placeOnFront l ad cI cJ cZ hcy10) yy_X0_placeOnFront tw_637 rfl rfl ⟨by decide, by decide⟩ hP hS (q0 := 6) (ci := 0) rfl rfl (xwa_6 ..) rfl hl.1 rfl (Nat.le_of_ble_eq_true rfl) dX7_front_17 (fun H locs hP hS => ?_)
    exact hw_20 x2 y10 σ11 H locs ls hP hS (lv_sub hl [0, 2] rfl) hf
  rw [if_neg c9] at hf
  refine lv_iconst (v := (-1)) hx hb dX7_front_8 (by decide) ?_
  refine lv_goto (tgt := 20) hx hb dX7_front_9 (by decide) ?_
  exact hw_20 x2 (-1) σ8 H locs ls hP hS (lv_sub hl [0, 2] rfl) hf
theorem dX7_swaps_0 : decode cX7_swaps 0 = .ok (.aload_n 0, 1) := by decide +kernel
theorem dX7_swaps_1 : decode cX7_swaps 1 = .ok (.invokevirtual 146, 3) := by decide +kernel
theorem dX7_swaps_4 : decode cX7_swaps 4 = .ok (.aload_n 0, 1) := by decide +kernel
theorem dX7_swaps_5 : decode cX7_swaps 5 = .ok (.getfield 44, 3) := by decide +kernel
theorem dX7_swaps_8 : decode cX7_swaps 8 = .ok (.iload_n 1, 1) := by decide +kernel
theorem dX7_swaps_9 : decode cX7_swaps 9 = .ok (.invokevirtual 177, 3) := by decide +kernel
theorem dX7_swaps_12 : decode cX7_swaps 12 = .ok (.istore_n 3, 1) := by decide +kernel
theorem dX7_swaps_13 : decode cX7_swaps 13 = .ok (.aload_n 0, 1) := by decide +kernel
theorem dX7_swaps_14 : decode cX7_swaps 14 = .ok (.getfield 44, 3) := by decide +kernel
theorem dX7_swaps_17 : decode cX7_swaps 17 = .ok (.iload_n 2, 1) := by decide +kernel
theorem dX7_swaps_18 : decode cX7_swaps 18 = .ok (.invokevirtual 177, 3) := by decide +kernel
theorem dX7_swaps_21 : decode cX7_swaps 21 = .ok (.istore 4, 2) := by decide +kernel
theorem dX7_swaps_23 : decode cX7_swaps 23 = .ok (.iload_n 3, 1) := by decide +kernel
theorem dX7_swaps_24 : decode cX7_swaps 24 = .ok (.iconst (-1), 1) := by decide +kernel
theorem dX7_swaps_25 : decode cX7_swaps 25 = .ok (.if_icmp .eq 9, 3) := by decide +kernel
theorem dX7_swaps_28 : decode cX7_swaps 28 = .ok (.iload 4, 2) := by decide +kernel
theorem dX7_swaps_30 : decode cX7_swaps 30 = .ok (.iconst (-1), 1) := by decide +kernel
theorem dX7_swaps_31 : decode cX7_swaps 31 = .ok (.if_icmp .ne 7, 3) := by decide +kernel
theorem dX7_swaps_34 : decode cX7_swaps 34 = .ok (.iconst (-1), 1) := by decide +kernel
theorem dX7_swaps_35 : decode cX7_swaps 35 = .ok (.goto 13, 3) := by decide +kernel
theorem dX7_swaps_38 : decode cX7_swaps 38 = .ok (.aload_n 0, 1) := by decide +kernel
theorem dX7_swaps_39 : decode cX7_swaps 39 = .ok (.getfield 53, 3) := by decide +kernel
theorem dX7_swaps_42 : decode cX7_swaps 42 = .ok (.iload_n 3, 1) := by decide +kernel
theorem dX7_swaps_43 : decode cX7_swaps 43 = .ok (.iload 4, 2) := by decide +kernel
theorem dX7_swaps_45 : decode cX7_swaps 45 = .ok (.invokevirtual 180, 3) := by decide +kernel
theorem dX7_swaps_48 : decode cX7_swaps 48 = .ok (.ireturn, 1) := by decide +kernel
def LT_swaps (N : Nat) (x1 : Int32) (x2 : Int32) (σ0 : St) : Option (Int32 × St) := bnd (LT_judge N σ0) (fun σ1 => bnd (GT_placeOfGood N x1 σ1) (fun y2 => bnd (GT_placeOfGood N x2 σ1) (fun y3 => if y2 = (-1) then some ((-1), σ1) else if y3 = (-1) then some ((-1), σ1) else bnd2 (Rt_length N y2 y3 σ1) (fun y6 σ7 => some (y6, σ7)))))
abbrev rm_LT_swaps : Room := { frames := 14, cells := 0, slots := 0, locals := 374 }
set_option maxHeartbeats 4000000 in
set_option maxRecDepth 100000 in
theorem k_LT_swaps (l : Launch) (ad : Nat → Nat) (cI cJ cZ : ClassId) {N : Nat} {x1 : Int32} {x2 : Int32} {σ0 : St} {r : Int32} {τ : St} (hf : LT_swaps N x1 x2 σ0 = some (r, τ)) : CtI l yX7_swaps (gws (.code yX7_swaps cX7_swaps 5 (some .int))) (rm_LT_swaps) (ty3 cI cJ cZ) (xw ad cI cJ) [.ref (ad 0), .int x1, .int x2] σ0 r τ := by
  refine CtI.of (by decide) (xw_ok ad cI cJ) (Nat.le_of_ble_eq_true rfl) ?_
  generalize hav : ([.ref (ad 0), .int x1, .int x2] : List Value) = av
  intro p e s m below meth c D A hC ls hl hP hS
  obtain ⟨hx, hb, hr, hlocks, hml, hown, hts, hK, hN, hD, hA⟩ := id hC
  rw [← hav] at hl
  have hl : lv_has ls 5 [(0, .ref (ad 0)), (1, .int x1), (2, .int x2)] := hl
  unfold LT_swaps at hf
  obtain ⟨H, hH⟩ : ∃ z, z = s.heap := ⟨_, rfl⟩
  obtain ⟨locs, hlocs⟩ : ∃ z : List Loc, z = [] := ⟨_, rfl⟩
  rw [← hH] at hP
  have hS : va_S A s.heap H locs := by rw [hH, hlocs]; exact va_S.rf
  suffices hgoal : W p l e _ s m _ below meth c H locs 0 0 _ _ by rw [hH, hlocs] at hgoal; exact hgoal
  refine lv_aload_n hx hb dX7_swaps_0 rfl (lv_at hl 0 rfl) ?_
  obtain ⟨σ1, hcσ1, hf⟩ := bnd_some hf
  refine cVv (As := []) (rest := []) hC (k_LT_judge l ad cI cJ cZ hcσ1) yy_X7_judge tw_564 rfl rfl ⟨by decide, by decide⟩ hP hS (q0 := 0) (ci := 7) rfl rfl (xwa_0 ..) rfl hl.1 rfl (Nat.le_of_ble_eq_true rfl) dX7_swaps_1 (fun H locs hP hS => ?_)
  refine lv_aload_n hx hb dX7_swaps_4 rfl (lv_at hl 0 rfl) ?_
  refine xg_0_4 hC hP tw_363 dX7_swaps_5 ?_
  refine lv_iload_n hx hb dX7_swaps_8 rfl (lv_at hl 1 rfl) ?_
  obtain ⟨y2, hcy2, hf⟩ := bnd_some hf
  refine cVi (As := [.int x1]) (rest := []) hC (k_GT_placeOfGood l ad cI cJ cZ hcy2) yy_X0_placeOfGood tw_645 rfl rfl ⟨by decide, by decide⟩ hP hS (q0 := 6) (ci := 0) rfl rfl (xwa_6 ..) rfl hl.1 rfl (Nat.le_of_ble_eq_true rfl) dX7_swaps_9 (fun H locs hP hS => ?_)
  refine lv_istore_n (lv' := [(3, .int y2), (0, .ref (ad 0)), (1, .int x1), (2, .int x2)]) hx hb dX7_swaps_12 rfl hl (by decide) rfl (fun ls hl => ?_)
  refine lv_aload_n hx hb dX7_swaps_13 rfl (lv_at hl 1 rfl) ?_
  refine xg_0_4 hC hP tw_363 dX7_swaps_14 ?_
  refine lv_iload_n hx hb dX7_swaps_17 rfl (lv_at hl 3 rfl) ?_
  obtain ⟨y3, hcy3, hf⟩ := bnd_some hf
  refine cVi (As := [.int x2]) (rest := []) hC (k_GT_placeOfGood l ad cI cJ cZ hcy3) yy_X0_placeOfGood tw_645 rfl rfl ⟨by decide, by decide⟩ hP hS (q0 := 6) (ci := 0) rfl rfl (xwa_6 ..) rfl hl.1 rfl (Nat.le_of_ble_eq_true rfl) dX7_swaps_18 (fun H locs hP hS => ?_)
  refine lv_istore (lv' := [(4, .int y3), (3, .int y2), (0, .ref (ad 0)), (1, .int x1), (2, .int x2)]) hx hb dX7_swaps_21 hl (by decide) rfl (fun ls hl => ?_)
  refine lv_iload_n hx hb dX7_swaps_23 rfl (lv_at hl 1 rfl) ?_
  refine lv_iconst (v := (-1)) hx hb dX7_swaps_24 (by decide) ?_
  refine lv_icmp_eq (tgt := 34) hx hb dX7_swaps_25 (by decide) (fun c4 => ?_) (fun c4 => ?_)
  · rw [if_pos c4] at hf
    refine lv_iconst (v := (-1)) hx hb dX7_swaps_34 (by decide) ?_
    refine lv_goto (tgt := 48) hx hb dX7_swaps_35 (by decide) ?_
    obtain ⟨h1, h2⟩ := ret2 hf
    exact retI hx hb hr hlocks hP hS h1 h2 dX7_swaps_48
  rw [if_neg c4] at hf
  refine lv_iload hx hb dX7_swaps_28 (lv_at hl 0 rfl) ?_
  refine lv_iconst (v := (-1)) hx hb dX7_swaps_30 (by decide) ?_
  refine lv_icmp_ne (tgt := 38) hx hb dX7_swaps_31 (by decide) (fun c5 => ?_) (fun c5 => ?_)
  · rw [if_neg c5] at hf
    refine lv_aload_n hx hb dX7_swaps_38 rfl (lv_at hl 2 rfl) ?_
    refine xg_0_5 hC hP tw_364 dX7_swaps_39 ?_
    refine lv_iload_n hx hb dX7_swaps_42 rfl (lv_at hl 1 rfl) ?_
    refine lv_iload hx hb dX7_swaps_43 (lv_at hl 0 rfl) ?_
    obtain ⟨y6, σ7, hcy6, hf⟩ := bnd2_some hf
    refine cVi (As := [.int y2, .int y3]) (rest := []) hC (k_Rt_length l ad cI cJ cZ hcy6) yy_X3_length tw_650 rfl rfl ⟨by decide, by decide⟩ hP hS (q0 := 7) (ci := 3) rfl rfl (xwa_7 ..) rfl hl.1 rfl (Nat.le_of_ble_eq_true rfl) dX7_swaps_45 (fun H locs hP hS => ?_)
    obtain ⟨h1, h2⟩ := ret2 hf
    exact retI hx hb hr hlocks hP hS h1 h2 dX7_swaps_48
  rw [if_pos c5] at hf
  refine lv_iconst (v := (-1)) hx hb dX7_swaps_34 (by decide) ?_
  refine lv_goto (tgt := 48) hx hb dX7_swaps_35 (by decide) ?_
  obtain ⟨h1, h2⟩ := ret2 hf
  exact retI hx hb hr hlocks hP hS h1 h2 dX7_swaps_48
theorem dX7_step_0 : decode cX7_step 0 = .ok (.aload_n 0, 1) := by decide +kernel
theorem dX7_step_1 : decode cX7_step 1 = .ok (.invokevirtual 146, 3) := by decide +kernel
theorem dX7_step_4 : decode cX7_step 4 = .ok (.aload_n 0, 1) := by decide +kernel
theorem dX7_step_5 : decode cX7_step 5 = .ok (.getfield 44, 3) := by decide +kernel
theorem dX7_step_8 : decode cX7_step 8 = .ok (.iload_n 1, 1) := by decide +kernel
theorem dX7_step_9 : decode cX7_step 9 = .ok (.invokevirtual 177, 3) := by decide +kernel
theorem dX7_step_12 : decode cX7_step 12 = .ok (.istore 4, 2) := by decide +kernel
theorem dX7_step_14 : decode cX7_step 14 = .ok (.aload_n 0, 1) := by decide +kernel
theorem dX7_step_15 : decode cX7_step 15 = .ok (.getfield 44, 3) := by decide +kernel
theorem dX7_step_18 : decode cX7_step 18 = .ok (.iload_n 2, 1) := by decide +kernel
theorem dX7_step_19 : decode cX7_step 19 = .ok (.invokevirtual 177, 3) := by decide +kernel
theorem dX7_step_22 : decode cX7_step 22 = .ok (.istore 5, 2) := by decide +kernel
theorem dX7_step_24 : decode cX7_step 24 = .ok (.iload 4, 2) := by decide +kernel
theorem dX7_step_26 : decode cX7_step 26 = .ok (.iconst (-1), 1) := by decide +kernel
theorem dX7_step_27 : decode cX7_step 27 = .ok (.if_icmp .eq 9, 3) := by decide +kernel
theorem dX7_step_30 : decode cX7_step 30 = .ok (.iload 5, 2) := by decide +kernel
theorem dX7_step_32 : decode cX7_step 32 = .ok (.iconst (-1), 1) := by decide +kernel
theorem dX7_step_33 : decode cX7_step 33 = .ok (.if_icmp .ne 7, 3) := by decide +kernel
theorem dX7_step_36 : decode cX7_step 36 = .ok (.iconst (-1), 1) := by decide +kernel
theorem dX7_step_37 : decode cX7_step 37 = .ok (.goto 15, 3) := by decide +kernel
theorem dX7_step_40 : decode cX7_step 40 = .ok (.aload_n 0, 1) := by decide +kernel
theorem dX7_step_41 : decode cX7_step 41 = .ok (.getfield 53, 3) := by decide +kernel
theorem dX7_step_44 : decode cX7_step 44 = .ok (.iload 4, 2) := by decide +kernel
theorem dX7_step_46 : decode cX7_step 46 = .ok (.iload 5, 2) := by decide +kernel
theorem dX7_step_48 : decode cX7_step 48 = .ok (.iload_n 3, 1) := by decide +kernel
theorem dX7_step_49 : decode cX7_step 49 = .ok (.invokevirtual 184, 3) := by decide +kernel
theorem dX7_step_52 : decode cX7_step 52 = .ok (.ireturn, 1) := by decide +kernel
def LT_step (N : Nat) (x1 : Int32) (x2 : Int32) (x3 : Int32) (σ0 : St) : Option (Int32 × St) := bnd (LT_judge N σ0) (fun σ1 => bnd (GT_placeOfGood N x1 σ1) (fun y2 => bnd (GT_placeOfGood N x2 σ1) (fun y3 => if y2 = (-1) then some ((-1), σ1) else if y3 = (-1) then some ((-1), σ1) else bnd2 (Rt_treeAt N y2 y3 x3 σ1) (fun y6 σ7 => some (y6, σ7)))))
abbrev rm_LT_step : Room := { frames := 14, cells := 0, slots := 0, locals := 374 }
set_option maxHeartbeats 4000000 in
set_option maxRecDepth 100000 in
theorem k_LT_step (l : Launch) (ad : Nat → Nat) (cI cJ cZ : ClassId) {N : Nat} {x1 : Int32} {x2 : Int32} {x3 : Int32} {σ0 : St} {r : Int32} {τ : St} (hf : LT_step N x1 x2 x3 σ0 = some (r, τ)) : CtI l yX7_step (gws (.code yX7_step cX7_step 6 (some .int))) (rm_LT_step) (ty3 cI cJ cZ) (xw ad cI cJ) [.ref (ad 0), .int x1, .int x2, .int x3] σ0 r τ := by
  refine CtI.of (by decide) (xw_ok ad cI cJ) (Nat.le_of_ble_eq_true rfl) ?_
  generalize hav : ([.ref (ad 0), .int x1, .int x2, .int x3] : List Value) = av
  intro p e s m below meth c D A hC ls hl hP hS
  obtain ⟨hx, hb, hr, hlocks, hml, hown, hts, hK, hN, hD, hA⟩ := id hC
  rw [← hav] at hl
  have hl : lv_has ls 6 [(0, .ref (ad 0)), (1, .int x1), (2, .int x2), (3, .int x3)] := hl
  unfold LT_step at hf
  obtain ⟨H, hH⟩ : ∃ z, z = s.heap := ⟨_, rfl⟩
  obtain ⟨locs, hlocs⟩ : ∃ z : List Loc, z = [] := ⟨_, rfl⟩
  rw [← hH] at hP
  have hS : va_S A s.heap H locs := by rw [hH, hlocs]; exact va_S.rf
  suffices hgoal : W p l e _ s m _ below meth c H locs 0 0 _ _ by rw [hH, hlocs] at hgoal; exact hgoal
  refine lv_aload_n hx hb dX7_step_0 rfl (lv_at hl 0 rfl) ?_
  obtain ⟨σ1, hcσ1, hf⟩ := bnd_some hf
  refine cVv (As := []) (rest := []) hC (k_LT_judge l ad cI cJ cZ hcσ1) yy_X7_judge tw_564 rfl rfl ⟨by decide, by decide⟩ hP hS (q0 := 0) (ci := 7) rfl rfl (xwa_0 ..) rfl hl.1 rfl (Nat.le_of_ble_eq_true rfl) dX7_step_1 (fun H locs hP hS => ?_)
  refine lv_aload_n hx hb dX7_step_4 rfl (lv_at hl 0 rfl) ?_
  refine xg_0_4 hC hP tw_363 dX7_step_5 ?_
  refine lv_iload_n hx hb dX7_step_8 rfl (lv_at hl 1 rfl) ?_
  obtain ⟨y2, hcy2, hf⟩ := bnd_some hf
  refine cVi (As := [.int x1]) (rest := []) hC (k_GT_placeOfGood l ad cI cJ cZ hcy2) yy_X0_placeOfGood tw_645 rfl rfl ⟨by decide, by decide⟩ hP hS (q0 := 6) (ci := 0) rfl rfl (xwa_6 ..) rfl hl.1 rfl (Nat.le_of_ble_eq_true rfl) dX7_step_9 (fun H locs hP hS => ?_)
  refine lv_istore (lv' := [(4, .int y2), (0, .ref (ad 0)), (1, .int x1), (2, .int x2), (3, .int x3)]) hx hb dX7_step_12 hl (by decide) rfl (fun ls hl => ?_)
  refine lv_aload_n hx hb dX7_step_14 rfl (lv_at hl 1 rfl) ?_
  refine xg_0_4 hC hP tw_363 dX7_step_15 ?_
  refine lv_iload_n hx hb dX7_step_18 rfl (lv_at hl 3 rfl) ?_
  obtain ⟨y3, hcy3, hf⟩ := bnd_some hf
  refine cVi (As := [.int x2]) (rest := []) hC (k_GT_placeOfGood l ad cI cJ cZ hcy3) yy_X0_placeOfGood tw_645 rfl rfl ⟨by decide, by decide⟩ hP hS (q0 := 6) (ci := 0) rfl rfl (xwa_6 ..) rfl hl.1 rfl (Nat.le_of_ble_eq_true rfl) dX7_step_19 (fun H locs hP hS => ?_)
  refine lv_istore (lv' := [(5, .int y3), (4, .int y2), (0, .ref (ad 0)), (1, .int x1), (2, .int x2), (3, .int x3)]) hx hb dX7_step_22 hl (by decide) rfl (fun ls hl => ?_)
  refine lv_iload hx hb dX7_step_24 (lv_at hl 1 rfl) ?_
  refine lv_iconst (v := (-1)) hx hb dX7_step_26 (by decide) ?_
  refine lv_icmp_eq (tgt := 36) hx hb dX7_step_27 (by decide) (fun c4 => ?_) (fun c4 => ?_)
  · rw [if_pos c4] at hf
    refine lv_iconst (v := (-1)) hx hb dX7_step_36 (by decide) ?_
    refine lv_goto (tgt := 52) hx hb dX7_step_37 (by decide) ?_
    obtain ⟨h1, h2⟩ := ret2 hf
    exact retI hx hb hr hlocks hP hS h1 h2 dX7_step_52
  rw [if_neg c4] at hf
  refine lv_iload hx hb dX7_step_30 (lv_at hl 0 rfl) ?_
  refine lv_iconst (v := (-1)) hx hb dX7_step_32 (by decide) ?_
  refine lv_icmp_ne (tgt := 40) hx hb dX7_step_33 (by decide) (fun c5 => ?_) (fun c5 => ?_)
  · rw [if_neg c5] at hf
    refine lv_aload_n hx hb dX7_step_40 rfl (lv_at hl 2 rfl) ?_
    refine xg_0_5 hC hP tw_364 dX7_step_41 ?_
    refine lv_iload hx hb dX7_step_44 (lv_at hl 1 rfl) ?_
    refine lv_iload hx hb dX7_step_46 (lv_at hl 0 rfl) ?_
    refine lv_iload_n hx hb dX7_step_48 rfl (lv_at hl 5 rfl) ?_
    obtain ⟨y6, σ7, hcy6, hf⟩ := bnd2_some hf
    refine cVi (As := [.int y2, .int y3, .int x3]) (rest := []) hC (k_Rt_treeAt l ad cI cJ cZ hcy6) yy_X3_treeAt tw_683 rfl rfl ⟨by decide, by decide⟩ hP hS (q0 := 7) (ci := 3) rfl rfl (xwa_7 ..) rfl hl.1 rfl (Nat.le_of_ble_eq_true rfl) dX7_step_49 (fun H locs hP hS => ?_)
    obtain ⟨h1, h2⟩ := ret2 hf
    exact retI hx hb hr hlocks hP hS h1 h2 dX7_step_52
  rw [if_pos c5] at hf
  refine lv_iconst (v := (-1)) hx hb dX7_step_36 (by decide) ?_
  refine lv_goto (tgt := 52) hx hb dX7_step_37 (by decide) ?_
  obtain ⟨h1, h2⟩ := ret2 hf
  exact retI hx hb hr hlocks hP hS h1 h2 dX7_step_52
theorem dX7_look_0 : decode cX7_look 0 = .ok (.aload_n 0, 1) := by decide +kernel
theorem dX7_look_1 : decode cX7_look 1 = .ok (.getfield 12, 3) := by decide +kernel
theorem dX7_look_4 : decode cX7_look 4 = .ok (.iload_n 1, 1) := by decide +kernel
theorem dX7_look_5 : decode cX7_look 5 = .ok (.invokevirtual 80, 3) := by decide +kernel
theorem dX7_look_8 : decode cX7_look 8 = .ok (.ifCond .ne 5, 3) := by decide +kernel
theorem dX7_look_11 : decode cX7_look 11 = .ok (.iconst (-1), 1) := by decide +kernel
theorem dX7_look_12 : decode cX7_look 12 = .ok (.ireturn, 1) := by decide +kernel
theorem dX7_look_13 : decode cX7_look 13 = .ok (.iload_n 2, 1) := by decide +kernel
theorem dX7_look_14 : decode cX7_look 14 = .ok (.tableswitch 88 0 4 #[34, 44, 54, 64, 76], 34) := by decide +kernel
theorem dX7_look_48 : decode cX7_look 48 = .ok (.aload_n 0, 1) := by decide +kernel
theorem dX7_look_49 : decode cX7_look 49 = .ok (.getfield 12, 3) := by decide +kernel
theorem dX7_look_52 : decode cX7_look 52 = .ok (.getfield 188, 3) := by decide +kernel
theorem dX7_look_55 : decode cX7_look 55 = .ok (.iload_n 1, 1) := by decide +kernel
theorem dX7_look_56 : decode cX7_look 56 = .ok (.iaload, 1) := by decide +kernel
theorem dX7_look_57 : decode cX7_look 57 = .ok (.ireturn, 1) := by decide +kernel
theorem dX7_look_58 : decode cX7_look 58 = .ok (.aload_n 0, 1) := by decide +kernel
theorem dX7_look_59 : decode cX7_look 59 = .ok (.getfield 12, 3) := by decide +kernel
theorem dX7_look_62 : decode cX7_look 62 = .ok (.getfield 191, 3) := by decide +kernel
theorem dX7_look_65 : decode cX7_look 65 = .ok (.iload_n 1, 1) := by decide +kernel
theorem dX7_look_66 : decode cX7_look 66 = .ok (.iaload, 1) := by decide +kernel
theorem dX7_look_67 : decode cX7_look 67 = .ok (.ireturn, 1) := by decide +kernel
theorem dX7_look_68 : decode cX7_look 68 = .ok (.aload_n 0, 1) := by decide +kernel
theorem dX7_look_69 : decode cX7_look 69 = .ok (.getfield 12, 3) := by decide +kernel
theorem dX7_look_72 : decode cX7_look 72 = .ok (.getfield 89, 3) := by decide +kernel
theorem dX7_look_75 : decode cX7_look 75 = .ok (.iload_n 1, 1) := by decide +kernel
theorem dX7_look_76 : decode cX7_look 76 = .ok (.iaload, 1) := by decide +kernel
theorem dX7_look_77 : decode cX7_look 77 = .ok (.ireturn, 1) := by decide +kernel
theorem dX7_look_78 : decode cX7_look 78 = .ok (.aload_n 0, 1) := by decide +kernel
theorem dX7_look_79 : decode cX7_look 79 = .ok (.getfield 12, 3) := by decide +kernel
theorem dX7_look_82 : decode cX7_look 82 = .ok (.getfield 194, 3) := by decide +kernel
theorem dX7_look_85 : decode cX7_look 85 = .ok (.iload_n 1, 1) := by decide +kernel
theorem dX7_look_86 : decode cX7_look 86 = .ok (.ishr, 1) := by decide +kernel
theorem dX7_look_87 : decode cX7_look 87 = .ok (.iconst 1, 1) := by decide +kernel
theorem dX7_look_88 : decode cX7_look 88 = .ok (.iand, 1) := by decide +kernel
theorem dX7_look_89 : decode cX7_look 89 = .ok (.ireturn, 1) := by decide +kernel
theorem dX7_look_90 : decode cX7_look 90 = .ok (.aload_n 0, 1) := by decide +kernel
theorem dX7_look_91 : decode cX7_look 91 = .ok (.getfield 12, 3) := by decide +kernel
theorem dX7_look_94 : decode cX7_look 94 = .ok (.getfield 86, 3) := by decide +kernel
theorem dX7_look_97 : decode cX7_look 97 = .ok (.iload_n 1, 1) := by decide +kernel
theorem dX7_look_98 : decode cX7_look 98 = .ok (.ishr, 1) := by decide +kernel
theorem dX7_look_99 : decode cX7_look 99 = .ok (.iconst 1, 1) := by decide +kernel
theorem dX7_look_100 : decode cX7_look 100 = .ok (.iand, 1) := by decide +kernel
theorem dX7_look_101 : decode cX7_look 101 = .ok (.ireturn, 1) := by decide +kernel
theorem dX7_look_102 : decode cX7_look 102 = .ok (.iconst (-1), 1) := by decide +kernel
theorem dX7_look_103 : decode cX7_look 103 = .ok (.ireturn, 1) := by decide +kernel
def LT_look (N : Nat) (x1 : Int32) (x2 : Int32) (σ0 : St) : Option (Int32) := if (Net_hasLine x1 σ0) = 0 then some (-1) else if x2 = 0 then grd (inb x1 14) (some (σ0.2.1 2 (x1).toNatClampNeg)) else (if x2 = 1 then grd (inb x1 14) (some (σ0.2.1 3 (x1).toNatClampNeg)) else (if x2 = 2 then grd (inb x1 14) (some (σ0.2.1 4 (x1).toNatClampNeg)) else (if x2 = 3 then some (((σ0.1 3) >>> (x1 &&& 31)) &&& 1) else (if x2 = 4 then some (((σ0.1 4) >>> (x1 &&& 31)) &&& 1) else (some (-1))))))
abbrev rm_LT_look : Room := { frames := 1, cells := 0, slots := 0, locals := 21 }
set_option maxHeartbeats 4000000 in
set_option maxRecDepth 100000 in
theorem k_LT_look (l : Launch) (ad : Nat → Nat) (cI cJ cZ : ClassId) {N : Nat} {x1 : Int32} {x2 : Int32} {σ0 : St} {r : Int32} (hf : LT_look N x1 x2 σ0 = some r) : CtI l yX7_look (gws (.code yX7_look cX7_look 3 (some .int))) (rm_LT_look) (ty3 cI cJ cZ) (xw ad cI cJ) [.ref (ad 0), .int x1, .int x2] σ0 r σ0 := by
  refine CtI.of (by decide) (xw_ok ad cI cJ) (Nat.le_of_ble_eq_true rfl) ?_
  generalize hav : ([.ref (ad 0), .int x1, .int x2] : List Value) = av
  intro p e s m below meth c D A hC ls hl hP hS
  obtain ⟨hx, hb, hr, hlocks, hml, hown, hts, hK, hN, hD, hA⟩ := id hC
  rw [← hav] at hl
  have hl : lv_has ls 3 [(0, .ref (ad 0)), (1, .int x1), (2, .int x2)] := hl
  unfold LT_look at hf
  obtain ⟨H, hH⟩ : ∃ z, z = s.heap := ⟨_, rfl⟩
  obtain ⟨locs, hlocs⟩ : ∃ z : List Loc, z = [] := ⟨_, rfl⟩
  rw [← hH] at hP
  have hS : va_S A s.heap H locs := by rw [hH, hlocs]; exact va_S.rf
  suffices hgoal : W p l e _ s m _ below meth c H locs 0 0 _ _ by rw [hH, hlocs] at hgoal; exact hgoal
  refine lv_aload_n hx hb dX7_look_0 rfl (lv_at hl 0 rfl) ?_
  refine xg_0_0 hC hP tw_359 dX7_look_1 ?_
  refine lv_iload_n hx hb dX7_look_4 rfl (lv_at hl 1 rfl) ?_
  refine cVi (As := [.int x1]) (rest := []) hC (k_Net_hasLine l ad cI cJ cZ rfl) yy_X2_hasLine tw_401 rfl rfl ⟨by decide, by decide⟩ hP hS (q0 := 1) (ci := 2) rfl rfl (xwa_1 ..) rfl hl.1 rfl (Nat.le_of_ble_eq_true rfl) dX7_look_5 (fun H locs hP hS => ?_)
  refine lv_if_ne (tgt := 13) hx hb dX7_look_8 (by decide) (fun c1 => ?_) (fun c1 => ?_)
  · rw [if_neg c1] at hf
    refine lv_iload_n hx hb dX7_look_13 rfl (lv_at hl 2 rfl) ?_
    by_cases c2 : x2 = 0
    · rw [if_pos c2] at hf
      refine lv_tableIn (tgt := 48) hx hb dX7_look_14 (by rw [c2]; decide) (by rw [c2]; decide) (by rw [c2]; rfl) (by decide) ?_
      refine lv_aload_n hx hb dX7_look_48 rfl (lv_at hl 0 rfl) ?_
      refine xg_0_0 hC hP tw_359 dX7_look_49 ?_
      refine xg_1_7 hC hP tw_88 dX7_look_52 ?_
      refine lv_iload_n hx hb dX7_look_55 rfl (lv_at hl 1 rfl) ?_
      obtain ⟨g3, hf⟩ := grd_some hf
      refine xl_11 hC hP g3 dX7_look_56 ?_
      have h1 := Option.some.inj hf
      exact retI hx hb hr hlocks hP hS h1 rfl dX7_look_57
    rw [if_neg c2] at hf
    by_cases c4 : x2 = 1
    · rw [if_pos c4] at hf
      refine lv_tableIn (tgt := 58) hx hb dX7_look_14 (by rw [c4]; decide) (by rw [c4]; decide) (by rw [c4]; rfl) (by decide) ?_
      refine lv_aload_n hx hb dX7_look_58 rfl (lv_at hl 0 rfl) ?_
      refine xg_0_0 hC hP tw_359 dX7_look_59 ?_
      refine xg_1_8 hC hP tw_92 dX7_look_62 ?_
      refine lv_iload_n hx hb dX7_look_65 rfl (lv_at hl 1 rfl) ?_
      obtain ⟨g5, hf⟩ := grd_some hf
      refine xl_12 hC hP g5 dX7_look_66 ?_
      have h1 := Option.some.inj hf
      exact retI hx hb hr hlocks hP hS h1 rfl dX7_look_67
    rw [if_neg c4] at hf
    by_cases c6 : x2 = 2
    · rw [if_pos c6] at hf
      refine lv_tableIn (tgt := 68) hx hb dX7_look_14 (by rw [c6]; decide) (by rw [c6]; decide) (by rw [c6]; rfl) (by decide) ?_
      refine lv_aload_n hx hb dX7_look_68 rfl (lv_at hl 0 rfl) ?_
      refine xg_0_0 hC hP tw_359 dX7_look_69 ?_
      refine xg_1_9 hC hP tw_95 dX7_look_72 ?_
      refine lv_iload_n hx hb dX7_look_75 rfl (lv_at hl 1 rfl) ?_
      obtain ⟨g7, hf⟩ := grd_some hf
      refine xl_13 hC hP g7 dX7_look_76 ?_
      have h1 := Option.some.inj hf
      exact retI hx hb hr hlocks hP hS h1 rfl dX7_look_77
    rw [if_neg c6] at hf
    by_cases c8 : x2 = 3
    · rw [if_pos c8] at hf
      refine lv_tableIn (tgt := 78) hx hb dX7_look_14 (by rw [c8]; decide) (by rw [c8]; decide) (by rw [c8]; rfl) (by decide) ?_
      refine lv_aload_n hx hb dX7_look_78 rfl (lv_at hl 0 rfl) ?_
      refine xg_0_0 hC hP tw_359 dX7_look_79 ?_
      refine xg_1_3 hC hP tw_75 dX7_look_82 ?_
      refine lv_iload_n hx hb dX7_look_85 rfl (lv_at hl 1 rfl) ?_
      refine lv_ishr hx hb dX7_look_86 ?_
      refine lv_iconst (v := 1) hx hb dX7_look_87 (by decide) ?_
      refine lv_iand hx hb dX7_look_88 ?_
      have h1 := Option.some.inj hf
      exact retI hx hb hr hlocks hP hS h1 rfl dX7_look_89
    rw [if_neg c8] at hf
    by_cases c9 : x2 = 4
    · rw [if_pos c9] at hf
      refine lv_tableIn (tgt := 90) hx hb dX7_look_14 (by rw [c9]; decide) (by rw [c9]; decide) (by rw [c9]; rfl) (by decide) ?_
      refine lv_aload_n hx hb dX7_look_90 rfl (lv_at hl 0 rfl) ?_
      refine xg_0_0 hC hP tw_359 dX7_look_91 ?_
      refine xg_1_4 hC hP tw_78 dX7_look_94 ?_
      refine lv_iload_n hx hb dX7_look_97 rfl (lv_at hl 1 rfl) ?_
      refine lv_ishr hx hb dX7_look_98 ?_
      refine lv_iconst (v := 1) hx hb dX7_look_99 (by decide) ?_
      refine lv_iand hx hb dX7_look_100 ?_
      have h1 := Option.some.inj hf
      exact retI hx hb hr hlocks hP hS h1 rfl dX7_look_101
    rw [if_neg c9] at hf
    refine lv_tableOut (tgt := 102) hx hb dX7_look_14 (sw_out5 c2 c4 c6 c8 c9) (by decide) ?_
    refine lv_iconst (v := (-1)) hx hb dX7_look_102 (by decide) ?_
    have h1 := Option.some.inj hf
    exact retI hx hb hr hlocks hP hS h1 rfl dX7_look_103
  rw [if_pos c1] at hf
  refine lv_iconst (v := (-1)) hx hb dX7_look_11 (by decide) ?_
  have h1 := Option.some.inj hf
  exact retI hx hb hr hlocks hP hS h1 rfl dX7_look_12
theorem dX7_count_0 : decode cX7_count 0 = .ok (.iload_n 1, 1) := by decide +kernel
theorem dX7_count_1 : decode cX7_count 1 = .ok (.tableswitch 143 0 9 #[55, 63, 71, 90, 98, 106, 114, 122, 130, 138], 55) := by decide +kernel
theorem dX7_count_56 : decode cX7_count 56 = .ok (.aload_n 0, 1) := by decide +kernel
theorem dX7_count_57 : decode cX7_count 57 = .ok (.getfield 12, 3) := by decide +kernel
theorem dX7_count_60 : decode cX7_count 60 = .ok (.getfield 197, 3) := by decide +kernel
theorem dX7_count_63 : decode cX7_count 63 = .ok (.ireturn, 1) := by decide +kernel
theorem dX7_count_64 : decode cX7_count 64 = .ok (.aload_n 0, 1) := by decide +kernel
theorem dX7_count_65 : decode cX7_count 65 = .ok (.getfield 12, 3) := by decide +kernel
theorem dX7_count_68 : decode cX7_count 68 = .ok (.getfield 69, 3) := by decide +kernel
theorem dX7_count_71 : decode cX7_count 71 = .ok (.ireturn, 1) := by decide +kernel
theorem dX7_count_72 : decode cX7_count 72 = .ok (.aload_n 0, 1) := by decide +kernel
theorem dX7_count_73 : decode cX7_count 73 = .ok (.getfield 12, 3) := by decide +kernel
theorem dX7_count_76 : decode cX7_count 76 = .ok (.getfield 69, 3) := by decide +kernel
theorem dX7_count_79 : decode cX7_count 79 = .ok (.aload_n 0, 1) := by decide +kernel
theorem dX7_count_80 : decode cX7_count 80 = .ok (.getfield 12, 3) := by decide +kernel
theorem dX7_count_83 : decode cX7_count 83 = .ok (.getfield 86, 3) := by decide +kernel
theorem dX7_count_86 : decode cX7_count 86 = .ok (.invokestatic 200, 3) := by decide +kernel
theorem dX7_count_89 : decode cX7_count 89 = .ok (.isub, 1) := by decide +kernel
theorem dX7_count_90 : decode cX7_count 90 = .ok (.ireturn, 1) := by decide +kernel
theorem dX7_count_91 : decode cX7_count 91 = .ok (.aload_n 0, 1) := by decide +kernel
theorem dX7_count_92 : decode cX7_count 92 = .ok (.getfield 12, 3) := by decide +kernel
theorem dX7_count_95 : decode cX7_count 95 = .ok (.getfield 103, 3) := by decide +kernel
theorem dX7_count_98 : decode cX7_count 98 = .ok (.ireturn, 1) := by decide +kernel
theorem dX7_count_99 : decode cX7_count 99 = .ok (.aload_n 0, 1) := by decide +kernel
theorem dX7_count_100 : decode cX7_count 100 = .ok (.getfield 19, 3) := by decide +kernel
theorem dX7_count_103 : decode cX7_count 103 = .ok (.getfield 100, 3) := by decide +kernel
theorem dX7_count_106 : decode cX7_count 106 = .ok (.ireturn, 1) := by decide +kernel
theorem dX7_count_107 : decode cX7_count 107 = .ok (.aload_n 0, 1) := by decide +kernel
theorem dX7_count_108 : decode cX7_count 108 = .ok (.getfield 19, 3) := by decide +kernel
theorem dX7_count_111 : decode cX7_count 111 = .ok (.getfield 106, 3) := by decide +kernel
theorem dX7_count_114 : decode cX7_count 114 = .ok (.ireturn, 1) := by decide +kernel
theorem dX7_count_115 : decode cX7_count 115 = .ok (.aload_n 0, 1) := by decide +kernel
theorem dX7_count_116 : decode cX7_count 116 = .ok (.getfield 19, 3) := by decide +kernel
theorem dX7_count_119 : decode cX7_count 119 = .ok (.getfield 112, 3) := by decide +kernel
theorem dX7_count_122 : decode cX7_count 122 = .ok (.ireturn, 1) := by decide +kernel
theorem dX7_count_123 : decode cX7_count 123 = .ok (.aload_n 0, 1) := by decide +kernel
theorem dX7_count_124 : decode cX7_count 124 = .ok (.getfield 19, 3) := by decide +kernel
theorem dX7_count_127 : decode cX7_count 127 = .ok (.getfield 115, 3) := by decide +kernel
theorem dX7_count_130 : decode cX7_count 130 = .ok (.ireturn, 1) := by decide +kernel
theorem dX7_count_131 : decode cX7_count 131 = .ok (.aload_n 0, 1) := by decide +kernel
theorem dX7_count_132 : decode cX7_count 132 = .ok (.getfield 19, 3) := by decide +kernel
theorem dX7_count_135 : decode cX7_count 135 = .ok (.getfield 118, 3) := by decide +kernel
theorem dX7_count_138 : decode cX7_count 138 = .ok (.ireturn, 1) := by decide +kernel
theorem dX7_count_139 : decode cX7_count 139 = .ok (.aload_n 0, 1) := by decide +kernel
theorem dX7_count_140 : decode cX7_count 140 = .ok (.invokevirtual 205, 3) := by decide +kernel
theorem dX7_count_143 : decode cX7_count 143 = .ok (.ireturn, 1) := by decide +kernel
theorem dX7_count_144 : decode cX7_count 144 = .ok (.aload_n 0, 1) := by decide +kernel
theorem dX7_count_145 : decode cX7_count 145 = .ok (.iload_n 1, 1) := by decide +kernel
theorem dX7_count_146 : decode cX7_count 146 = .ok (.invokevirtual 208, 3) := by decide +kernel
theorem dX7_count_149 : decode cX7_count 149 = .ok (.ireturn, 1) := by decide +kernel
def LT_count (N : Nat) (x1 : Int32) (σ0 : St) : Option (Int32 × St) := if x1 = 0 then some ((σ0.1 0), σ0) else (if x1 = 1 then some ((σ0.1 2), σ0) else (if x1 = 2 then some (((σ0.1 2) - (J_bc (σ0.1 4))), σ0) else (if x1 = 3 then some ((σ0.1 1), σ0) else (if x1 = 4 then some ((σ0.1 5), σ0) else (if x1 = 5 then some ((σ0.1 6), σ0) else (if x1 = 6 then some ((σ0.1 7), σ0) else (if x1 = 7 then some ((σ0.1 8), σ0) else (if x1 = 8 then some ((σ0.1 9), σ0) else (if x1 = 9 then bnd2 (LT_wholeTrees N σ0) (fun y11 σ12 => some (y11, σ12)) else (bnd (LT_countAtPost N x1 σ0) (fun y13 => some (y13, σ0))))))))))))
abbrev rm_LT_count : Room := { frames := 15, cells := 0, slots := 0, locals := 394 }
set_option maxHeartbeats 4000000 in
set_option maxRecDepth 100000 in
theorem k_LT_count (l : Launch) (ad : Nat → Nat) (cI cJ cZ : ClassId) {N : Nat} {x1 : Int32} {σ0 : St} {r : Int32} {τ : St} (hf : LT_count N x1 σ0 = some (r, τ)) : CtI l yX7_count (gws (.code yX7_count cX7_count 2 (some .int))) (rm_LT_count) (ty3 cI cJ cZ) (xw ad cI cJ) [.ref (ad 0), .int x1] σ0 r τ := by
  refine CtI.of (by decide) (xw_ok ad cI cJ) (Nat.le_of_ble_eq_true rfl) ?_
  generalize hav : ([.ref (ad 0), .int x1] : List Value) = av
  intro p e s m below meth c D A hC ls hl hP hS
  obtain ⟨hx, hb, hr, hlocks, hml, hown, hts, hK, hN, hD, hA⟩ := id hC
  rw [← hav] at hl
  have hl : lv_has ls 2 [(0, .ref (ad 0)), (1, .int x1)] := hl
  unfold LT_count at hf
  obtain ⟨H, hH⟩ : ∃ z, z = s.heap := ⟨_, rfl⟩
  obtain ⟨locs, hlocs⟩ : ∃ z : List Loc, z = [] := ⟨_, rfl⟩
  rw [← hH] at hP
  have hS : va_S A s.heap H locs := by rw [hH, hlocs]; exact va_S.rf
  suffices hgoal : W p l e _ s m _ below meth c H locs 0 0 _ _ by rw [hH, hlocs] at hgoal; exact hgoal
  refine lv_iload_n hx hb dX7_count_0 rfl (lv_at hl 1 rfl) ?_
  by_cases c1 : x1 = 0
  · rw [if_pos c1] at hf
    refine lv_tableIn (tgt := 56) hx hb dX7_count_1 (by rw [c1]; decide) (by rw [c1]; decide) (by rw [c1]; rfl) (by decide) ?_
    refine lv_aload_n hx hb dX7_count_56 rfl (lv_at hl 0 rfl) ?_
    refine xg_0_0 hC hP tw_359 dX7_count_57 ?_
    refine xg_1_0 hC hP tw_67 dX7_count_60 ?_
    obtain ⟨h1, h2⟩ := ret2 hf
    exact retI hx hb hr hlocks hP hS h1 h2 dX7_count_63
  rw [if_neg c1] at hf
  by_cases c2 : x1 = 1
  · rw [if_pos c2] at hf
    refine lv_tableIn (tgt := 64) hx hb dX7_count_1 (by rw [c2]; decide) (by rw [c2]; decide) (by rw [c2]; rfl) (by decide) ?_
    refine lv_aload_n hx hb dX7_count_64 rfl (lv_at hl 0 rfl) ?_
    refine xg_0_0 hC hP tw_359 dX7_count_65 ?_
    refine xg_1_2 hC hP tw_72 dX7_count_68 ?_
    obtain ⟨h1, h2⟩ := ret2 hf
    exact retI hx hb hr hlocks hP hS h1 h2 dX7_count_71
  rw [if_neg c2] at hf
  by_cases c3 : x1 = 2
  · rw [if_pos c3] at hf
    refine lv_tableIn (tgt := 72) hx hb dX7_count_1 (by rw [c3]; decide) (by rw [c3]; decide) (by rw [c3]; rfl) (by decide) ?_
    refine lv_aload_n hx hb dX7_count_72 rfl (lv_at hl 0 rfl) ?_
    refine xg_0_0 hC hP tw_359 dX7_count_73 ?_
    refine xg_1_2 hC hP tw_72 dX7_count_76 ?_
    refine lv_aload_n hx hb dX7_count_79 rfl (lv_at hl 0 rfl) ?_
    refine xg_0_0 hC hP tw_359 dX7_count_80 ?_
    refine xg_1_4 hC hP tw_78 dX7_count_83 ?_
    refine cSi (As := [.int (σ0.1 4)]) (rest := [.int (σ0.1 2)]) hC (k_J_bc l (xw ad cI cJ) (xw_ok ad cI cJ) (ty3 cI cJ cZ) _ rfl) yy_J6_bitCount_0f7a4 tw_522 rfl rfl ⟨by decide, by decide⟩ hP hS rfl hl.1 rfl (Nat.le_of_ble_eq_true rfl) dX7_count_86 (fun H locs hP hS => ?_)
    refine lv_isub hx hb dX7_count_89 ?_
    obtain ⟨h1, h2⟩ := ret2 hf
    exact retI hx hb hr hlocks hP hS h1 h2 dX7_count_90
  rw [if_neg c3] at hf
  by_cases c4 : x1 = 3
  · rw [if_pos c4] at hf
    refine lv_tableIn (tgt := 91) hx hb dX7_count_1 (by rw [c4]; decide) (by rw [c4]; decide) (by rw [c4]; rfl) (by decide) ?_
    refine lv_aload_n hx hb dX7_count_91 rfl (lv_at hl 0 rfl) ?_
    refine xg_0_0 hC hP tw_359 dX7_count_92 ?_
    refine xg_1_1 hC hP tw_70 dX7_count_95 ?_
    obtain ⟨h1, h2⟩ := ret2 hf
    exact retI hx hb hr hlocks hP hS h1 h2 dX7_count_98
  rw [if_neg c4] at hf
  by_cases c5 : x1 = 4
  · rw [if_pos c5] at hf
    refine lv_tableIn (tgt := 99) hx hb dX7_count_1 (by rw [c5]; decide) (by rw [c5]; decide) (by rw [c5]; rfl) (by decide) ?_
    refine lv_aload_n hx hb dX7_count_99 rfl (lv_at hl 0 rfl) ?_
    refine xg_0_1 hC hP tw_360 dX7_count_100 ?_
    refine xg_2_1 hC hP tw_127 dX7_count_103 ?_
    obtain ⟨h1, h2⟩ := ret2 hf
    exact retI hx hb hr hlocks hP hS h1 h2 dX7_count_106
  rw [if_neg c5] at hf
  by_cases c6 : x1 = 5
  · rw [if_pos c6] at hf
    refine lv_tableIn (tgt := 107) hx hb dX7_count_1 (by rw [c6]; decide) (by rw [c6]; decide) (by rw [c6]; rfl) (by decide) ?_
    refine lv_aload_n hx hb dX7_count_107 rfl (lv_at hl 0 rfl) ?_
    refine xg_0_1 hC hP tw_360 dX7_count_108 ?_
    refine xg_2_2 hC hP tw_129 dX7_count_111 ?_
    obtain ⟨h1, h2⟩ := ret2 hf
    exact retI hx hb hr hlocks hP hS h1 h2 dX7_count_114
  rw [if_neg c6] at hf
  by_cases c7 : x1 = 6
  · rw [if_pos c7] at hf
    refine lv_tableIn (tgt := 115) hx hb dX7_count_1 (by rw [c7]; decide) (by rw [c7]; decide) (by rw [c7]; rfl) (by decide) ?_
    refine lv_aload_n hx hb dX7_count_115 rfl (lv_at hl 0 rfl) ?_
    refine xg_0_1 hC hP tw_360 dX7_count_116 ?_
    refine xg_2_3 hC hP tw_131 dX7_count_119 ?_
    obtain ⟨h1, h2⟩ := ret2 hf
    exact retI hx hb hr hlocks hP hS h1 h2 dX7_count_122
  rw [if_neg c7] at hf
  by_cases c8 : x1 = 7
  · rw [if_pos c8] at hf
    refine lv_tableIn (tgt := 123) hx hb dX7_count_1 (by rw [c8]; decide) (by rw [c8]; decide) (by rw [c8]; rfl) (by decide) ?_
    refine lv_aload_n hx hb dX7_count_123 rfl (lv_at hl 0 rfl) ?_
    refine xg_0_1 hC hP tw_360 dX7_count_124 ?_
    refine xg_2_4 hC hP tw_133 dX7_count_127 ?_
    obtain ⟨h1, h2⟩ := ret2 hf
    exact retI hx hb hr hlocks hP hS h1 h2 dX7_count_130
  rw [if_neg c8] at hf
  by_cases c9 : x1 = 8
  · rw [if_pos c9] at hf
    refine lv_tableIn (tgt := 131) hx hb dX7_count_1 (by rw [c9]; decide) (by rw [c9]; decide) (by rw [c9]; rfl) (by decide) ?_
    refine lv_aload_n hx hb dX7_count_131 rfl (lv_at hl 0 rfl) ?_
    refine xg_0_1 hC hP tw_360 dX7_count_132 ?_
    refine xg_2_5 hC hP tw_135 dX7_count_135 ?_
    obtain ⟨h1, h2⟩ := ret2 hf
    exact retI hx hb hr hlocks hP hS h1 h2 dX7_count_138
  rw [if_neg c9] at hf
  by_cases c10 : x1 = 9
  · rw [if_pos c10] at hf
    refine lv_tableIn (tgt := 139) hx hb dX7_count_1 (by rw [c10]; decide) (by rw [c10]; decide) (by rw [c10]; rfl) (by decide) ?_
    refine lv_aload_n hx hb dX7_count_139 rfl (lv_at hl 0 rfl) ?_
    obtain ⟨y11, σ12, hcy11, hf⟩ := bnd2_some hf
    refine cVi (As := []) (rest := []) hC (k_LT_wholeTrees l ad cI cJ cZ hcy11) yy_X7_wholeTrees tw_701 rfl rfl ⟨by decide, by decide⟩ hP hS (q0 := 0) (ci := 7) rfl rfl (xwa_0 ..) rfl hl.1 rfl (Nat.le_of_ble_eq_true rfl) dX7_count_140 (fun H locs hP hS => ?_)
    obtain ⟨h1, h2⟩ := ret2 hf
    exact retI hx hb hr hlocks hP hS h1 h2 dX7_count_143
  rw [if_neg c10] at hf
  refine lv_tableOut (tgt := 144) hx hb dX7_count_1 (sw_out10 c1 c2 c3 c4 c5 c6 c7 c8 c9 c10) (by decide) ?_
  refine lv_aload_n hx hb dX7_count_144 rfl (lv_at hl 0 rfl) ?_
  refine lv_iload_n hx hb dX7_count_145 rfl (lv_at hl 1 rfl) ?_
  obtain ⟨y13, hcy13, hf⟩ := bnd_some hf
  refine cVi (As := [.int x1]) (rest := []) hC (k_LT_countAtPost l ad cI cJ cZ hcy13) yy_X7_countAtPost tw_705 rfl rfl ⟨by decide, by decide⟩ hP hS (q0 := 0) (ci := 7) rfl rfl (xwa_0 ..) rfl hl.1 rfl (Nat.le_of_ble_eq_true rfl) dX7_count_146 (fun H locs hP hS => ?_)
  obtain ⟨h1, h2⟩ := ret2 hf
  exact retI hx hb hr hlocks hP hS h1 h2 dX7_count_149
