/-! walks laid by program (gen.py, walk.py): 07.leaf -/
theorem dJ6_bitCount_0f7a4_0 : decode cJ6_bitCount_0f7a4 0 = .ok (.iload_n 0, 1) := by decide +kernel
theorem dJ6_bitCount_0f7a4_1 : decode cJ6_bitCount_0f7a4 1 = .ok (.iload_n 0, 1) := by decide +kernel
theorem dJ6_bitCount_0f7a4_2 : decode cJ6_bitCount_0f7a4 2 = .ok (.iconst 1, 1) := by decide +kernel
theorem dJ6_bitCount_0f7a4_3 : decode cJ6_bitCount_0f7a4 3 = .ok (.iushr, 1) := by decide +kernel
theorem dJ6_bitCount_0f7a4_4 : decode cJ6_bitCount_0f7a4 4 = .ok (.ldc_w 265, 3) := by decide +kernel
theorem dJ6_bitCount_0f7a4_7 : decode cJ6_bitCount_0f7a4 7 = .ok (.iand, 1) := by decide +kernel
theorem dJ6_bitCount_0f7a4_8 : decode cJ6_bitCount_0f7a4 8 = .ok (.isub, 1) := by decide +kernel
theorem dJ6_bitCount_0f7a4_9 : decode cJ6_bitCount_0f7a4 9 = .ok (.istore_n 0, 1) := by decide +kernel
theorem dJ6_bitCount_0f7a4_10 : decode cJ6_bitCount_0f7a4 10 = .ok (.iload_n 0, 1) := by decide +kernel
theorem dJ6_bitCount_0f7a4_11 : decode cJ6_bitCount_0f7a4 11 = .ok (.ldc_w 266, 3) := by decide +kernel
theorem dJ6_bitCount_0f7a4_14 : decode cJ6_bitCount_0f7a4 14 = .ok (.iand, 1) := by decide +kernel
theorem dJ6_bitCount_0f7a4_15 : decode cJ6_bitCount_0f7a4 15 = .ok (.iload_n 0, 1) := by decide +kernel
theorem dJ6_bitCount_0f7a4_16 : decode cJ6_bitCount_0f7a4 16 = .ok (.iconst 2, 1) := by decide +kernel
theorem dJ6_bitCount_0f7a4_17 : decode cJ6_bitCount_0f7a4 17 = .ok (.iushr, 1) := by decide +kernel
theorem dJ6_bitCount_0f7a4_18 : decode cJ6_bitCount_0f7a4 18 = .ok (.ldc_w 266, 3) := by decide +kernel
theorem dJ6_bitCount_0f7a4_21 : decode cJ6_bitCount_0f7a4 21 = .ok (.iand, 1) := by decide +kernel
theorem dJ6_bitCount_0f7a4_22 : decode cJ6_bitCount_0f7a4 22 = .ok (.iadd, 1) := by decide +kernel
theorem dJ6_bitCount_0f7a4_23 : decode cJ6_bitCount_0f7a4 23 = .ok (.istore_n 0, 1) := by decide +kernel
theorem dJ6_bitCount_0f7a4_24 : decode cJ6_bitCount_0f7a4 24 = .ok (.iload_n 0, 1) := by decide +kernel
theorem dJ6_bitCount_0f7a4_25 : decode cJ6_bitCount_0f7a4 25 = .ok (.iload_n 0, 1) := by decide +kernel
theorem dJ6_bitCount_0f7a4_26 : decode cJ6_bitCount_0f7a4 26 = .ok (.iconst 4, 1) := by decide +kernel
theorem dJ6_bitCount_0f7a4_27 : decode cJ6_bitCount_0f7a4 27 = .ok (.iushr, 1) := by decide +kernel
theorem dJ6_bitCount_0f7a4_28 : decode cJ6_bitCount_0f7a4 28 = .ok (.iadd, 1) := by decide +kernel
theorem dJ6_bitCount_0f7a4_29 : decode cJ6_bitCount_0f7a4 29 = .ok (.ldc_w 267, 3) := by decide +kernel
theorem dJ6_bitCount_0f7a4_32 : decode cJ6_bitCount_0f7a4 32 = .ok (.iand, 1) := by decide +kernel
theorem dJ6_bitCount_0f7a4_33 : decode cJ6_bitCount_0f7a4 33 = .ok (.istore_n 0, 1) := by decide +kernel
theorem dJ6_bitCount_0f7a4_34 : decode cJ6_bitCount_0f7a4 34 = .ok (.iload_n 0, 1) := by decide +kernel
theorem dJ6_bitCount_0f7a4_35 : decode cJ6_bitCount_0f7a4 35 = .ok (.iload_n 0, 1) := by decide +kernel
theorem dJ6_bitCount_0f7a4_36 : decode cJ6_bitCount_0f7a4 36 = .ok (.bipush 8, 2) := by decide +kernel
theorem dJ6_bitCount_0f7a4_38 : decode cJ6_bitCount_0f7a4 38 = .ok (.iushr, 1) := by decide +kernel
theorem dJ6_bitCount_0f7a4_39 : decode cJ6_bitCount_0f7a4 39 = .ok (.iadd, 1) := by decide +kernel
theorem dJ6_bitCount_0f7a4_40 : decode cJ6_bitCount_0f7a4 40 = .ok (.istore_n 0, 1) := by decide +kernel
theorem dJ6_bitCount_0f7a4_41 : decode cJ6_bitCount_0f7a4 41 = .ok (.iload_n 0, 1) := by decide +kernel
theorem dJ6_bitCount_0f7a4_42 : decode cJ6_bitCount_0f7a4 42 = .ok (.iload_n 0, 1) := by decide +kernel
theorem dJ6_bitCount_0f7a4_43 : decode cJ6_bitCount_0f7a4 43 = .ok (.bipush 16, 2) := by decide +kernel
theorem dJ6_bitCount_0f7a4_45 : decode cJ6_bitCount_0f7a4 45 = .ok (.iushr, 1) := by decide +kernel
theorem dJ6_bitCount_0f7a4_46 : decode cJ6_bitCount_0f7a4 46 = .ok (.iadd, 1) := by decide +kernel
theorem dJ6_bitCount_0f7a4_47 : decode cJ6_bitCount_0f7a4 47 = .ok (.istore_n 0, 1) := by decide +kernel
theorem dJ6_bitCount_0f7a4_48 : decode cJ6_bitCount_0f7a4 48 = .ok (.iload_n 0, 1) := by decide +kernel
theorem dJ6_bitCount_0f7a4_49 : decode cJ6_bitCount_0f7a4 49 = .ok (.bipush 63, 2) := by decide +kernel
theorem dJ6_bitCount_0f7a4_51 : decode cJ6_bitCount_0f7a4 51 = .ok (.iand, 1) := by decide +kernel
theorem dJ6_bitCount_0f7a4_52 : decode cJ6_bitCount_0f7a4 52 = .ok (.ireturn, 1) := by decide +kernel
def J_bc (x0 : Int32) : Int32 := lt ((x0 - ((iushr x0 1) &&& 1431655765))) (fun y1 => lt (((y1 &&& 858993459) + ((iushr y1 2) &&& 858993459))) (fun y2 => lt (((y2 + (iushr y2 4)) &&& 252645135)) (fun y3 => lt (((y3 + (iushr y3 8)) + (iushr (y3 + (iushr y3 8)) 16))) (fun y4 => (y4 &&& 63)))))
abbrev rm_J_bc : Room := { frames := 0, cells := 0, slots := 0, locals := 0 }
set_option maxHeartbeats 4000000 in
set_option maxRecDepth 100000 in
theorem k_J_bc (l : Launch) (ω : St → va_W) (hω : wA ω) (tys : List (ClassId × FieldType)) (σ0 : St) {x0 : Int32} {r : Int32} (hf : J_bc x0 = r) : CtI l yJ6_bitCount_0f7a4 (gws (.code yJ6_bitCount_0f7a4 cJ6_bitCount_0f7a4 1 (some .int))) (rm_J_bc) tys ω [.int x0] σ0 r σ0 := by
  refine CtI.of (by decide) hω (Nat.le_of_ble_eq_true rfl) ?_
  generalize hav : ([.int x0] : List Value) = av
  intro p e s m below meth c D A hC ls hl hP hS
  obtain ⟨hx, hb, hr, hlocks, hml, hown, hts, hK, hN, hD, hA⟩ := id hC
  rw [← hav] at hl
  have hl : lv_has ls 1 [(0, .int x0)] := hl
  unfold J_bc at hf
  obtain ⟨H, hH⟩ : ∃ z, z = s.heap := ⟨_, rfl⟩
  obtain ⟨locs, hlocs⟩ : ∃ z : List Loc, z = [] := ⟨_, rfl⟩
  rw [← hH] at hP
  have hS : va_S A s.heap H locs := by rw [hH, hlocs]; exact va_S.rf
  suffices hgoal : W p l e _ s m _ below meth c H locs 0 0 _ _ by rw [hH, hlocs] at hgoal; exact hgoal
  refine lv_iload_n hx hb dJ6_bitCount_0f7a4_0 rfl (lv_at hl 0 rfl) ?_
  refine lv_iload_n hx hb dJ6_bitCount_0f7a4_1 rfl (lv_at hl 0 rfl) ?_
  refine lv_iconst (v := 1) hx hb dJ6_bitCount_0f7a4_2 (by decide) ?_
  refine lv_iushr (v := (iushr x0 1)) hx hb dJ6_bitCount_0f7a4_3 rfl ?_
  refine lv_ldcw (v := 1431655765) hx hb hown (hts _ tw_525) dJ6_bitCount_0f7a4_4 ?_
  refine lv_iand hx hb dJ6_bitCount_0f7a4_7 ?_
  refine lv_isub hx hb dJ6_bitCount_0f7a4_8 ?_
  obtain ⟨y1, ey1, hf⟩ := lt_e hf
  rw [← ey1]
  refine lv_istore_n (lv' := [(0, .int y1)]) hx hb dJ6_bitCount_0f7a4_9 rfl hl (by decide) rfl (fun ls hl => ?_)
  refine lv_iload_n hx hb dJ6_bitCount_0f7a4_10 rfl (lv_at hl 0 rfl) ?_
  refine lv_ldcw (v := 858993459) hx hb hown (hts _ tw_526) dJ6_bitCount_0f7a4_11 ?_
  refine lv_iand hx hb dJ6_bitCount_0f7a4_14 ?_
  refine lv_iload_n hx hb dJ6_bitCount_0f7a4_15 rfl (lv_at hl 0 rfl) ?_
  refine lv_iconst (v := 2) hx hb dJ6_bitCount_0f7a4_16 (by decide) ?_
  refine lv_iushr (v := (iushr y1 2)) hx hb dJ6_bitCount_0f7a4_17 rfl ?_
  refine lv_ldcw (v := 858993459) hx hb hown (hts _ tw_526) dJ6_bitCount_0f7a4_18 ?_
  refine lv_iand hx hb dJ6_bitCount_0f7a4_21 ?_
  refine lv_iadd hx hb dJ6_bitCount_0f7a4_22 ?_
  obtain ⟨y2, ey2, hf⟩ := lt_e hf
  rw [← ey2]
  refine lv_istore_n (lv' := [(0, .int y2)]) hx hb dJ6_bitCount_0f7a4_23 rfl hl (by decide) rfl (fun ls hl => ?_)
  refine lv_iload_n hx hb dJ6_bitCount_0f7a4_24 rfl (lv_at hl 0 rfl) ?_
  refine lv_iload_n hx hb dJ6_bitCount_0f7a4_25 rfl (lv_at hl 0 rfl) ?_
  refine lv_iconst (v := 4) hx hb dJ6_bitCount_0f7a4_26 (by decide) ?_
  refine lv_iushr (v := (iushr y2 4)) hx hb dJ6_bitCount_0f7a4_27 rfl ?_
  refine lv_iadd hx hb dJ6_bitCount_0f7a4_28 ?_
  refine lv_ldcw (v := 252645135) hx hb hown (hts _ tw_527) dJ6_bitCount_0f7a4_29 ?_
  refine lv_iand hx hb dJ6_bitCount_0f7a4_32 ?_
  obtain ⟨y3, ey3, hf⟩ := lt_e hf
  rw [← ey3]
  refine lv_istore_n (lv' := [(0, .int y3)]) hx hb dJ6_bitCount_0f7a4_33 rfl hl (by decide) rfl (fun ls hl => ?_)
  refine lv_iload_n hx hb dJ6_bitCount_0f7a4_34 rfl (lv_at hl 0 rfl) ?_
  refine lv_iload_n hx hb dJ6_bitCount_0f7a4_35 rfl (lv_at hl 0 rfl) ?_
  refine lv_bipush (v := 8) hx hb dJ6_bitCount_0f7a4_36 (by decide) ?_
  refine lv_iushr (v := (iushr y3 8)) hx hb dJ6_bitCount_0f7a4_38 rfl ?_
  refine lv_iadd hx hb dJ6_bitCount_0f7a4_39 ?_
  refine lv_istore_n (lv' := [(0, .int (y3 + (iushr y3 8)))]) hx hb dJ6_bitCount_0f7a4_40 rfl hl (by decide) rfl (fun ls hl => ?_)
  refine lv_iload_n hx hb dJ6_bitCount_0f7a4_41 rfl (lv_at hl 0 rfl) ?_
  refine lv_iload_n hx hb dJ6_bitCount_0f7a4_42 rfl (lv_at hl 0 rfl) ?_
  refine lv_bipush (v := 16) hx hb dJ6_bitCount_0f7a4_43 (by decide) ?_
  refine lv_iushr (v := (iushr (y3 + (iushr y3 8)) 16)) hx hb dJ6_bitCount_0f7a4_45 rfl ?_
  refine lv_iadd hx hb dJ6_bitCount_0f7a4_46 ?_
  obtain ⟨y4, ey4, hf⟩ := lt_e hf
  rw [← ey4]
  refine lv_istore_n (lv' := [(0, .int y4)]) hx hb dJ6_bitCount_0f7a4_47 rfl hl (by decide) rfl (fun ls hl => ?_)
  refine lv_iload_n hx hb dJ6_bitCount_0f7a4_48 rfl (lv_at hl 0 rfl) ?_
  refine lv_bipush (v := 63) hx hb dJ6_bitCount_0f7a4_49 (by decide) ?_
  refine lv_iand hx hb dJ6_bitCount_0f7a4_51 ?_
  have h1 := hf
  exact retI hx hb hr hlocks hP hS h1 rfl dJ6_bitCount_0f7a4_52
theorem dJ13_bitCount_95d88_0 : decode cJ13_bitCount_95d88 0 = .ok (.lload_n 0, 1) := by decide +kernel
theorem dJ13_bitCount_95d88_1 : decode cJ13_bitCount_95d88 1 = .ok (.lload_n 0, 1) := by decide +kernel
theorem dJ13_bitCount_95d88_2 : decode cJ13_bitCount_95d88 2 = .ok (.iconst 1, 1) := by decide +kernel
theorem dJ13_bitCount_95d88_3 : decode cJ13_bitCount_95d88 3 = .ok (.lushr, 1) := by decide +kernel
theorem dJ13_bitCount_95d88_4 : decode cJ13_bitCount_95d88 4 = .ok (.ldc2_w 314, 3) := by decide +kernel
theorem dJ13_bitCount_95d88_7 : decode cJ13_bitCount_95d88 7 = .ok (.land, 1) := by decide +kernel
theorem dJ13_bitCount_95d88_8 : decode cJ13_bitCount_95d88 8 = .ok (.lsub, 1) := by decide +kernel
theorem dJ13_bitCount_95d88_9 : decode cJ13_bitCount_95d88 9 = .ok (.lstore_n 0, 1) := by decide +kernel
theorem dJ13_bitCount_95d88_10 : decode cJ13_bitCount_95d88 10 = .ok (.lload_n 0, 1) := by decide +kernel
theorem dJ13_bitCount_95d88_11 : decode cJ13_bitCount_95d88 11 = .ok (.ldc2_w 316, 3) := by decide +kernel
theorem dJ13_bitCount_95d88_14 : decode cJ13_bitCount_95d88 14 = .ok (.land, 1) := by decide +kernel
theorem dJ13_bitCount_95d88_15 : decode cJ13_bitCount_95d88 15 = .ok (.lload_n 0, 1) := by decide +kernel
theorem dJ13_bitCount_95d88_16 : decode cJ13_bitCount_95d88 16 = .ok (.iconst 2, 1) := by decide +kernel
theorem dJ13_bitCount_95d88_17 : decode cJ13_bitCount_95d88 17 = .ok (.lushr, 1) := by decide +kernel
theorem dJ13_bitCount_95d88_18 : decode cJ13_bitCount_95d88 18 = .ok (.ldc2_w 316, 3) := by decide +kernel
theorem dJ13_bitCount_95d88_21 : decode cJ13_bitCount_95d88 21 = .ok (.land, 1) := by decide +kernel
theorem dJ13_bitCount_95d88_22 : decode cJ13_bitCount_95d88 22 = .ok (.ladd, 1) := by decide +kernel
theorem dJ13_bitCount_95d88_23 : decode cJ13_bitCount_95d88 23 = .ok (.lstore_n 0, 1) := by decide +kernel
theorem dJ13_bitCount_95d88_24 : decode cJ13_bitCount_95d88 24 = .ok (.lload_n 0, 1) := by decide +kernel
theorem dJ13_bitCount_95d88_25 : decode cJ13_bitCount_95d88 25 = .ok (.lload_n 0, 1) := by decide +kernel
theorem dJ13_bitCount_95d88_26 : decode cJ13_bitCount_95d88 26 = .ok (.iconst 4, 1) := by decide +kernel
theorem dJ13_bitCount_95d88_27 : decode cJ13_bitCount_95d88 27 = .ok (.lushr, 1) := by decide +kernel
theorem dJ13_bitCount_95d88_28 : decode cJ13_bitCount_95d88 28 = .ok (.ladd, 1) := by decide +kernel
theorem dJ13_bitCount_95d88_29 : decode cJ13_bitCount_95d88 29 = .ok (.ldc2_w 318, 3) := by decide +kernel
theorem dJ13_bitCount_95d88_32 : decode cJ13_bitCount_95d88 32 = .ok (.land, 1) := by decide +kernel
theorem dJ13_bitCount_95d88_33 : decode cJ13_bitCount_95d88 33 = .ok (.lstore_n 0, 1) := by decide +kernel
theorem dJ13_bitCount_95d88_34 : decode cJ13_bitCount_95d88 34 = .ok (.lload_n 0, 1) := by decide +kernel
theorem dJ13_bitCount_95d88_35 : decode cJ13_bitCount_95d88 35 = .ok (.lload_n 0, 1) := by decide +kernel
theorem dJ13_bitCount_95d88_36 : decode cJ13_bitCount_95d88 36 = .ok (.bipush 8, 2) := by decide +kernel
theorem dJ13_bitCount_95d88_38 : decode cJ13_bitCount_95d88 38 = .ok (.lushr, 1) := by decide +kernel
theorem dJ13_bitCount_95d88_39 : decode cJ13_bitCount_95d88 39 = .ok (.ladd, 1) := by decide +kernel
theorem dJ13_bitCount_95d88_40 : decode cJ13_bitCount_95d88 40 = .ok (.lstore_n 0, 1) := by decide +kernel
theorem dJ13_bitCount_95d88_41 : decode cJ13_bitCount_95d88 41 = .ok (.lload_n 0, 1) := by decide +kernel
theorem dJ13_bitCount_95d88_42 : decode cJ13_bitCount_95d88 42 = .ok (.lload_n 0, 1) := by decide +kernel
theorem dJ13_bitCount_95d88_43 : decode cJ13_bitCount_95d88 43 = .ok (.bipush 16, 2) := by decide +kernel
theorem dJ13_bitCount_95d88_45 : decode cJ13_bitCount_95d88 45 = .ok (.lushr, 1) := by decide +kernel
theorem dJ13_bitCount_95d88_46 : decode cJ13_bitCount_95d88 46 = .ok (.ladd, 1) := by decide +kernel
theorem dJ13_bitCount_95d88_47 : decode cJ13_bitCount_95d88 47 = .ok (.lstore_n 0, 1) := by decide +kernel
theorem dJ13_bitCount_95d88_48 : decode cJ13_bitCount_95d88 48 = .ok (.lload_n 0, 1) := by decide +kernel
theorem dJ13_bitCount_95d88_49 : decode cJ13_bitCount_95d88 49 = .ok (.lload_n 0, 1) := by decide +kernel
theorem dJ13_bitCount_95d88_50 : decode cJ13_bitCount_95d88 50 = .ok (.bipush 32, 2) := by decide +kernel
theorem dJ13_bitCount_95d88_52 : decode cJ13_bitCount_95d88 52 = .ok (.lushr, 1) := by decide +kernel
theorem dJ13_bitCount_95d88_53 : decode cJ13_bitCount_95d88 53 = .ok (.ladd, 1) := by decide +kernel
theorem dJ13_bitCount_95d88_54 : decode cJ13_bitCount_95d88 54 = .ok (.lstore_n 0, 1) := by decide +kernel
theorem dJ13_bitCount_95d88_55 : decode cJ13_bitCount_95d88 55 = .ok (.lload_n 0, 1) := by decide +kernel
theorem dJ13_bitCount_95d88_56 : decode cJ13_bitCount_95d88 56 = .ok (.l2i, 1) := by decide +kernel
theorem dJ13_bitCount_95d88_57 : decode cJ13_bitCount_95d88 57 = .ok (.bipush 127, 2) := by decide +kernel
theorem dJ13_bitCount_95d88_59 : decode cJ13_bitCount_95d88 59 = .ok (.iand, 1) := by decide +kernel
theorem dJ13_bitCount_95d88_60 : decode cJ13_bitCount_95d88 60 = .ok (.ireturn, 1) := by decide +kernel
def J_bcl (x0 : Int64) : Int32 := lt ((x0 - ((lushr x0 1) &&& 6148914691236517205))) (fun y1 => lt (((y1 &&& 3689348814741910323) + ((lushr y1 2) &&& 3689348814741910323))) (fun y2 => lt (((y2 + (lushr y2 4)) &&& 1085102592571150095)) (fun y3 => lt (((y3 + (lushr y3 8)) + (lushr (y3 + (lushr y3 8)) 16))) (fun y4 => ((((y4 + (lushr y4 32))).toInt32) &&& 127)))))
abbrev rm_J_bcl : Room := { frames := 0, cells := 0, slots := 0, locals := 0 }
set_option maxHeartbeats 4000000 in
set_option maxRecDepth 100000 in
theorem k_J_bcl (l : Launch) (ω : St → va_W) (hω : wA ω) (tys : List (ClassId × FieldType)) (σ0 : St) {x0 : Int64} {r : Int32} (hf : J_bcl x0 = r) : CtI l yJ13_bitCount_95d88 (gws (.code yJ13_bitCount_95d88 cJ13_bitCount_95d88 2 (some .int))) (rm_J_bcl) tys ω [.long x0] σ0 r σ0 := by
  refine CtI.of (by decide) hω (Nat.le_of_ble_eq_true rfl) ?_
  generalize hav : ([.long x0] : List Value) = av
  intro p e s m below meth c D A hC ls hl hP hS
  obtain ⟨hx, hb, hr, hlocks, hml, hown, hts, hK, hN, hD, hA⟩ := id hC
  rw [← hav] at hl
  have hl : lv_has ls 2 [(0, .long x0)] := hl
  unfold J_bcl at hf
  obtain ⟨H, hH⟩ : ∃ z, z = s.heap := ⟨_, rfl⟩
  obtain ⟨locs, hlocs⟩ : ∃ z : List Loc, z = [] := ⟨_, rfl⟩
  rw [← hH] at hP
  have hS : va_S A s.heap H locs := by rw [hH, hlocs]; exact va_S.rf
  suffices hgoal : W p l e _ s m _ below meth c H locs 0 0 _ _ by rw [hH, hlocs] at hgoal; exact hgoal
  refine lv_lload_n hx hb dJ13_bitCount_95d88_0 rfl (lv_at hl 0 rfl) ?_
  refine lv_lload_n hx hb dJ13_bitCount_95d88_1 rfl (lv_at hl 0 rfl) ?_
  refine lv_iconst (v := 1) hx hb dJ13_bitCount_95d88_2 (by decide) ?_
  refine lv_lushr (v := (lushr x0 1)) hx hb dJ13_bitCount_95d88_3 rfl ?_
  refine lv_ldc2 (v := 6148914691236517205) hx hb hown (hts _ tw_508) dJ13_bitCount_95d88_4 ?_
  refine lv_land hx hb dJ13_bitCount_95d88_7 ?_
  refine lv_lsub hx hb dJ13_bitCount_95d88_8 ?_
  obtain ⟨y1, ey1, hf⟩ := lt_e hf
  rw [← ey1]
  refine lv_lstore_n (lv' := [(0, .long y1)]) hx hb dJ13_bitCount_95d88_9 rfl hl (by decide) rfl (fun ls hl => ?_)
  refine lv_lload_n hx hb dJ13_bitCount_95d88_10 rfl (lv_at hl 0 rfl) ?_
  refine lv_ldc2 (v := 3689348814741910323) hx hb hown (hts _ tw_509) dJ13_bitCount_95d88_11 ?_
  refine lv_land hx hb dJ13_bitCount_95d88_14 ?_
  refine lv_lload_n hx hb dJ13_bitCount_95d88_15 rfl (lv_at hl 0 rfl) ?_
  refine lv_iconst (v := 2) hx hb dJ13_bitCount_95d88_16 (by decide) ?_
  refine lv_lushr (v := (lushr y1 2)) hx hb dJ13_bitCount_95d88_17 rfl ?_
  refine lv_ldc2 (v := 3689348814741910323) hx hb hown (hts _ tw_509) dJ13_bitCount_95d88_18 ?_
  refine lv_land hx hb dJ13_bitCount_95d88_21 ?_
  refine lv_ladd hx hb dJ13_bitCount_95d88_22 ?_
  obtain ⟨y2, ey2, hf⟩ := lt_e hf
  rw [← ey2]
  refine lv_lstore_n (lv' := [(0, .long y2)]) hx hb dJ13_bitCount_95d88_23 rfl hl (by decide) rfl (fun ls hl => ?_)
  refine lv_lload_n hx hb dJ13_bitCount_95d88_24 rfl (lv_at hl 0 rfl) ?_
  refine lv_lload_n hx hb dJ13_bitCount_95d88_25 rfl (lv_at hl 0 rfl) ?_
  refine lv_iconst (v := 4) hx hb dJ13_bitCount_95d88_26 (by decide) ?_
  refine lv_lushr (v := (lushr y2 4)) hx hb dJ13_bitCount_95d88_27 rfl ?_
  refine lv_ladd hx hb dJ13_bitCount_95d88_28 ?_
  refine lv_ldc2 (v := 1085102592571150095) hx hb hown (hts _ tw_510) dJ13_bitCount_95d88_29 ?_
  refine lv_land hx hb dJ13_bitCount_95d88_32 ?_
  obtain ⟨y3, ey3, hf⟩ := lt_e hf
  rw [← ey3]
  refine lv_lstore_n (lv' := [(0, .long y3)]) hx hb dJ13_bitCount_95d88_33 rfl hl (by decide) rfl (fun ls hl => ?_)
  refine lv_lload_n hx hb dJ13_bitCount_95d88_34 rfl (lv_at hl 0 rfl) ?_
  refine lv_lload_n hx hb dJ13_bitCount_95d88_35 rfl (lv_at hl 0 rfl) ?_
  refine lv_bipush (v := 8) hx hb dJ13_bitCount_95d88_36 (by decide) ?_
  refine lv_lushr (v := (lushr y3 8)) hx hb dJ13_bitCount_95d88_38 rfl ?_
  refine lv_ladd hx hb dJ13_bitCount_95d88_39 ?_
  refine lv_lstore_n (lv' := [(0, .long (y3 + (lushr y3 8)))]) hx hb dJ13_bitCount_95d88_40 rfl hl (by decide) rfl (fun ls hl => ?_)
  refine lv_lload_n hx hb dJ13_bitCount_95d88_41 rfl (lv_at hl 0 rfl) ?_
  refine lv_lload_n hx hb dJ13_bitCount_95d88_42 rfl (lv_at hl 0 rfl) ?_
  refine lv_bipush (v := 16) hx hb dJ13_bitCount_95d88_43 (by decide) ?_
  refine lv_lushr (v := (lushr (y3 + (lushr y3 8)) 16)) hx hb dJ13_bitCount_95d88_45 rfl ?_
  refine lv_ladd hx hb dJ13_bitCount_95d88_46 ?_
  obtain ⟨y4, ey4, hf⟩ := lt_e hf
  rw [← ey4]
  refine lv_lstore_n (lv' := [(0, .long y4)]) hx hb dJ13_bitCount_95d88_47 rfl hl (by decide) rfl (fun ls hl => ?_)
  refine lv_lload_n hx hb dJ13_bitCount_95d88_48 rfl (lv_at hl 0 rfl) ?_
  refine lv_lload_n hx hb dJ13_bitCount_95d88_49 rfl (lv_at hl 0 rfl) ?_
  refine lv_bipush (v := 32) hx hb dJ13_bitCount_95d88_50 (by decide) ?_
  refine lv_lushr (v := (lushr y4 32)) hx hb dJ13_bitCount_95d88_52 rfl ?_
  refine lv_ladd hx hb dJ13_bitCount_95d88_53 ?_
  refine lv_lstore_n (lv' := [(0, .long (y4 + (lushr y4 32)))]) hx hb dJ13_bitCount_95d88_54 rfl hl (by decide) rfl (fun ls hl => ?_)
  refine lv_lload_n hx hb dJ13_bitCount_95d88_55 rfl (lv_at hl 0 rfl) ?_
  refine lv_l2i (v := ((y4 + (lushr y4 32))).toInt32) hx hb dJ13_bitCount_95d88_56 rfl ?_
  refine lv_bipush (v := 127) hx hb dJ13_bitCount_95d88_57 (by decide) ?_
  refine lv_iand hx hb dJ13_bitCount_95d88_59 ?_
  have h1 := hf
  exact retI hx hb hr hlocks hP hS h1 rfl dJ13_bitCount_95d88_60
theorem dX7_within_0 : decode cX7_within 0 = .ok (.iload_n 0, 1) := by decide +kernel
theorem dX7_within_1 : decode cX7_within 1 = .ok (.iload_n 1, 1) := by decide +kernel
theorem dX7_within_2 : decode cX7_within 2 = .ok (.if_icmp .lt 12, 3) := by decide +kernel
theorem dX7_within_5 : decode cX7_within 5 = .ok (.iload_n 0, 1) := by decide +kernel
theorem dX7_within_6 : decode cX7_within 6 = .ok (.iload_n 2, 1) := by decide +kernel
theorem dX7_within_7 : decode cX7_within 7 = .ok (.if_icmp .gt 7, 3) := by decide +kernel
theorem dX7_within_10 : decode cX7_within 10 = .ok (.iconst 1, 1) := by decide +kernel
theorem dX7_within_11 : decode cX7_within 11 = .ok (.goto 4, 3) := by decide +kernel
theorem dX7_within_14 : decode cX7_within 14 = .ok (.iconst 0, 1) := by decide +kernel
theorem dX7_within_15 : decode cX7_within 15 = .ok (.ireturn, 1) := by decide +kernel
def LT_within (x0 : Int32) (x1 : Int32) (x2 : Int32) : Int32 := if x0 < x1 then 0 else if x2 < x0 then 0 else 1
abbrev rm_LT_within : Room := { frames := 0, cells := 0, slots := 0, locals := 0 }
set_option maxHeartbeats 4000000 in
set_option maxRecDepth 100000 in
theorem k_LT_within (l : Launch) (ω : St → va_W) (hω : wA ω) (tys : List (ClassId × FieldType)) (σ0 : St) {x0 : Int32} {x1 : Int32} {x2 : Int32} {r : Int32} (hf : LT_within x0 x1 x2 = r) : CtI l yX7_within (gws (.code yX7_within cX7_within 3 (some .boolean))) (rm_LT_within) tys ω [.int x0, .int x1, .int x2] σ0 r σ0 := by
  refine CtI.of (by decide) hω (Nat.le_of_ble_eq_true rfl) ?_
  generalize hav : ([.int x0, .int x1, .int x2] : List Value) = av
  intro p e s m below meth c D A hC ls hl hP hS
  obtain ⟨hx, hb, hr, hlocks, hml, hown, hts, hK, hN, hD, hA⟩ := id hC
  rw [← hav] at hl
  have hl : lv_has ls 3 [(0, .int x0), (1, .int x1), (2, .int x2)] := hl
  unfold LT_within at hf
  obtain ⟨H, hH⟩ : ∃ z, z = s.heap := ⟨_, rfl⟩
  obtain ⟨locs, hlocs⟩ : ∃ z : List Loc, z = [] := ⟨_, rfl⟩
  rw [← hH] at hP
  have hS : va_S A s.heap H locs := by rw [hH, hlocs]; exact va_S.rf
  suffices hgoal : W p l e _ s m _ below meth c H locs 0 0 _ _ by rw [hH, hlocs] at hgoal; exact hgoal
  refine lv_iload_n hx hb dX7_within_0 rfl (lv_at hl 0 rfl) ?_
  refine lv_iload_n hx hb dX7_within_1 rfl (lv_at hl 1 rfl) ?_
  refine lv_icmp_lt (tgt := 14) hx hb dX7_within_2 (by decide) (fun c1 => ?_) (fun c1 => ?_)
  · rw [if_pos c1] at hf
    refine lv_iconst (v := 0) hx hb dX7_within_14 (by decide) ?_
    have h1 := hf
    exact retZ hx hb hr hlocks hP hS (Or.inl rfl) h1 rfl dX7_within_15
  rw [if_neg c1] at hf
  refine lv_iload_n hx hb dX7_within_5 rfl (lv_at hl 0 rfl) ?_
  refine lv_iload_n hx hb dX7_within_6 rfl (lv_at hl 2 rfl) ?_
  refine lv_icmp_gt (tgt := 14) hx hb dX7_within_7 (by decide) (fun c2 => ?_) (fun c2 => ?_)
  · rw [if_pos c2] at hf
    refine lv_iconst (v := 0) hx hb dX7_within_14 (by decide) ?_
    have h1 := hf
    exact retZ hx hb hr hlocks hP hS (Or.inl rfl) h1 rfl dX7_within_15
  rw [if_neg c2] at hf
  refine lv_iconst (v := 1) hx hb dX7_within_10 (by decide) ?_
  refine lv_goto (tgt := 15) hx hb dX7_within_11 (by decide) ?_
  have h1 := hf
  exact retZ hx hb hr hlocks hP hS (Or.inr rfl) h1 rfl dX7_within_15
theorem LT_within_01 (x0 : Int32) (x1 : Int32) (x2 : Int32) : LT_within x0 x1 x2 = 0 ∨ LT_within x0 x1 x2 = 1 := by
  unfold LT_within
  repeat (first | exact Or.inl rfl | exact Or.inr rfl | split)
theorem dX7_lowest_0 : decode cX7_lowest 0 = .ok (.iload_n 0, 1) := by decide +kernel
theorem dX7_lowest_1 : decode cX7_lowest 1 = .ok (.iload_n 0, 1) := by decide +kernel
theorem dX7_lowest_2 : decode cX7_lowest 2 = .ok (.ineg, 1) := by decide +kernel
theorem dX7_lowest_3 : decode cX7_lowest 3 = .ok (.iand, 1) := by decide +kernel
theorem dX7_lowest_4 : decode cX7_lowest 4 = .ok (.iconst 1, 1) := by decide +kernel
theorem dX7_lowest_5 : decode cX7_lowest 5 = .ok (.isub, 1) := by decide +kernel
theorem dX7_lowest_6 : decode cX7_lowest 6 = .ok (.invokestatic 200, 3) := by decide +kernel
theorem dX7_lowest_9 : decode cX7_lowest 9 = .ok (.ireturn, 1) := by decide +kernel
def LT_lowest (x0 : Int32) : Int32 := (J_bc ((x0 &&& (-x0)) - 1))
abbrev rm_LT_lowest : Room := { frames := 1, cells := 0, slots := 0, locals := 20 }
set_option maxHeartbeats 4000000 in
set_option maxRecDepth 100000 in
theorem k_LT_lowest (l : Launch) (ω : St → va_W) (hω : wA ω) (tys : List (ClassId × FieldType)) (σ0 : St) {x0 : Int32} {r : Int32} (hf : LT_lowest x0 = r) : CtI l yX7_lowest (gws (.code yX7_lowest cX7_lowest 1 (some .int))) (rm_LT_lowest) tys ω [.int x0] σ0 r σ0 := by
  refine CtI.of (by decide) hω (Nat.le_of_ble_eq_true rfl) ?_
  generalize hav : ([.int x0] : List Value) = av
  intro p e s m below meth c D A hC ls hl hP hS
  obtain ⟨hx, hb, hr, hlocks, hml, hown, hts, hK, hN, hD, hA⟩ := id hC
  rw [← hav] at hl
  have hl : lv_has ls 1 [(0, .int x0)] := hl
  unfold LT_lowest at hf
  obtain ⟨H, hH⟩ : ∃ z, z = s.heap := ⟨_, rfl⟩
  obtain ⟨locs, hlocs⟩ : ∃ z : List Loc, z = [] := ⟨_, rfl⟩
  rw [← hH] at hP
  have hS : va_S A s.heap H locs := by rw [hH, hlocs]; exact va_S.rf
  suffices hgoal : W p l e _ s m _ below meth c H locs 0 0 _ _ by rw [hH, hlocs] at hgoal; exact hgoal
  refine lv_iload_n hx hb dX7_lowest_0 rfl (lv_at hl 0 rfl) ?_
  refine lv_iload_n hx hb dX7_lowest_1 rfl (lv_at hl 0 rfl) ?_
  refine lv_ineg hx hb dX7_lowest_2 ?_
  refine lv_iand hx hb dX7_lowest_3 ?_
  refine lv_iconst (v := 1) hx hb dX7_lowest_4 (by decide) ?_
  refine lv_isub hx hb dX7_lowest_5 ?_
  refine cSi (As := [.int ((x0 &&& (-x0)) - 1)]) (rest := []) hC (k_J_bc l ω hω tys _ rfl) yy_J6_bitCount_0f7a4 tw_522 rfl rfl ⟨by decide, by decide⟩ hP hS rfl hl.1 rfl (Nat.le_of_ble_eq_true rfl) dX7_lowest_6 (fun H locs hP hS => ?_)
  have h1 := hf
  exact retI hx hb hr hlocks hP hS h1 rfl dX7_lowest_9
theorem dX2_hasPost_0 : decode cX2_hasPost 0 = .ok (.iload_n 1, 1) := by decide +kernel
theorem dX2_hasPost_1 : decode cX2_hasPost 1 = .ok (.ifCond .lt 15, 3) := by decide +kernel
theorem dX2_hasPost_4 : decode cX2_hasPost 4 = .ok (.iload_n 1, 1) := by decide +kernel
theorem dX2_hasPost_5 : decode cX2_hasPost 5 = .ok (.aload_n 0, 1) := by decide +kernel
theorem dX2_hasPost_6 : decode cX2_hasPost 6 = .ok (.getfield 27, 3) := by decide +kernel
theorem dX2_hasPost_9 : decode cX2_hasPost 9 = .ok (.if_icmp .ge 7, 3) := by decide +kernel
theorem dX2_hasPost_12 : decode cX2_hasPost 12 = .ok (.iconst 1, 1) := by decide +kernel
theorem dX2_hasPost_13 : decode cX2_hasPost 13 = .ok (.goto 4, 3) := by decide +kernel
theorem dX2_hasPost_16 : decode cX2_hasPost 16 = .ok (.iconst 0, 1) := by decide +kernel
theorem dX2_hasPost_17 : decode cX2_hasPost 17 = .ok (.ireturn, 1) := by decide +kernel
def Net_hasPost (x1 : Int32) (σ0 : St) : Int32 := if x1 < 0 then 0 else if (σ0.1 0) ≤ x1 then 0 else 1
abbrev rm_Net_hasPost : Room := { frames := 0, cells := 0, slots := 0, locals := 0 }
set_option maxHeartbeats 4000000 in
set_option maxRecDepth 100000 in
theorem k_Net_hasPost (l : Launch) (ad : Nat → Nat) (cI cJ cZ : ClassId) {x1 : Int32} {σ0 : St} {r : Int32} (hf : Net_hasPost x1 σ0 = r) : CtI l yX2_hasPost (gws (.code yX2_hasPost cX2_hasPost 2 (some .boolean))) (rm_Net_hasPost) (ty3 cI cJ cZ) (xw ad cI cJ) [.ref (ad 1), .int x1] σ0 r σ0 := by
  refine CtI.of (by decide) (xw_ok ad cI cJ) (Nat.le_of_ble_eq_true rfl) ?_
  generalize hav : ([.ref (ad 1), .int x1] : List Value) = av
  intro p e s m below meth c D A hC ls hl hP hS
  obtain ⟨hx, hb, hr, hlocks, hml, hown, hts, hK, hN, hD, hA⟩ := id hC
  rw [← hav] at hl
  have hl : lv_has ls 2 [(0, .ref (ad 1)), (1, .int x1)] := hl
  unfold Net_hasPost at hf
  obtain ⟨H, hH⟩ : ∃ z, z = s.heap := ⟨_, rfl⟩
  obtain ⟨locs, hlocs⟩ : ∃ z : List Loc, z = [] := ⟨_, rfl⟩
  rw [← hH] at hP
  have hS : va_S A s.heap H locs := by rw [hH, hlocs]; exact va_S.rf
  suffices hgoal : W p l e _ s m _ below meth c H locs 0 0 _ _ by rw [hH, hlocs] at hgoal; exact hgoal
  refine lv_iload_n hx hb dX2_hasPost_0 rfl (lv_at hl 1 rfl) ?_
  refine lv_if_lt (tgt := 16) hx hb dX2_hasPost_1 (by decide) (fun c1 => ?_) (fun c1 => ?_)
  · rw [if_pos c1] at hf
    refine lv_iconst (v := 0) hx hb dX2_hasPost_16 (by decide) ?_
    have h1 := hf
    exact retZ hx hb hr hlocks hP hS (Or.inl rfl) h1 rfl dX2_hasPost_17
  rw [if_neg c1] at hf
  refine lv_iload_n hx hb dX2_hasPost_4 rfl (lv_at hl 1 rfl) ?_
  refine lv_aload_n hx hb dX2_hasPost_5 rfl (lv_at hl 0 rfl) ?_
  refine xg_1_0 hC hP tw_65 dX2_hasPost_6 ?_
  refine lv_icmp_ge (tgt := 16) hx hb dX2_hasPost_9 (by decide) (fun c2 => ?_) (fun c2 => ?_)
  · rw [if_pos c2] at hf
    refine lv_iconst (v := 0) hx hb dX2_hasPost_16 (by decide) ?_
    have h1 := hf
    exact retZ hx hb hr hlocks hP hS (Or.inl rfl) h1 rfl dX2_hasPost_17
  rw [if_neg c2] at hf
  refine lv_iconst (v := 1) hx hb dX2_hasPost_12 (by decide) ?_
  refine lv_goto (tgt := 17) hx hb dX2_hasPost_13 (by decide) ?_
  have h1 := hf
  exact retZ hx hb hr hlocks hP hS (Or.inr rfl) h1 rfl dX2_hasPost_17
theorem Net_hasPost_01 (x1 : Int32) (σ0 : St) : Net_hasPost x1 σ0 = 0 ∨ Net_hasPost x1 σ0 = 1 := by
  unfold Net_hasPost
  repeat (first | exact Or.inl rfl | exact Or.inr rfl | split)
theorem dX2_hasLine_0 : decode cX2_hasLine 0 = .ok (.iload_n 1, 1) := by decide +kernel
theorem dX2_hasLine_1 : decode cX2_hasLine 1 = .ok (.ifCond .lt 15, 3) := by decide +kernel
theorem dX2_hasLine_4 : decode cX2_hasLine 4 = .ok (.iload_n 1, 1) := by decide +kernel
theorem dX2_hasLine_5 : decode cX2_hasLine 5 = .ok (.aload_n 0, 1) := by decide +kernel
theorem dX2_hasLine_6 : decode cX2_hasLine 6 = .ok (.getfield 34, 3) := by decide +kernel
theorem dX2_hasLine_9 : decode cX2_hasLine 9 = .ok (.if_icmp .ge 7, 3) := by decide +kernel
theorem dX2_hasLine_12 : decode cX2_hasLine 12 = .ok (.iconst 1, 1) := by decide +kernel
theorem dX2_hasLine_13 : decode cX2_hasLine 13 = .ok (.goto 4, 3) := by decide +kernel
theorem dX2_hasLine_16 : decode cX2_hasLine 16 = .ok (.iconst 0, 1) := by decide +kernel
theorem dX2_hasLine_17 : decode cX2_hasLine 17 = .ok (.ireturn, 1) := by decide +kernel
def Net_hasLine (x1 : Int32) (σ0 : St) : Int32 := if x1 < 0 then 0 else if (σ0.1 2) ≤ x1 then 0 else 1
abbrev rm_Net_hasLine : Room := { frames := 0, cells := 0, slots := 0, locals := 0 }
set_option maxHeartbeats 4000000 in
set_option maxRecDepth 100000 in
theorem k_Net_hasLine (l : Launch) (ad : Nat → Nat) (cI cJ cZ : ClassId) {x1 : Int32} {σ0 : St} {r : Int32} (hf : Net_hasLine x1 σ0 = r) : CtI l yX2_hasLine (gws (.code yX2_hasLine cX2_hasLine 2 (some .boolean))) (rm_Net_hasLine) (ty3 cI cJ cZ) (xw ad cI cJ) [.ref (ad 1), .int x1] σ0 r σ0 := by
  refine CtI.of (by decide) (xw_ok ad cI cJ) (Nat.le_of_ble_eq_true rfl) ?_
  generalize hav : ([.ref (ad 1), .int x1] : List Value) = av
  intro p e s m below meth c D A hC ls hl hP hS
  obtain ⟨hx, hb, hr, hlocks, hml, hown, hts, hK, hN, hD, hA⟩ := id hC
  rw [← hav] at hl
  have hl : lv_has ls 2 [(0, .ref (ad 1)), (1, .int x1)] := hl
  unfold Net_hasLine at hf
  obtain ⟨H, hH⟩ : ∃ z, z = s.heap := ⟨_, rfl⟩
  obtain ⟨locs, hlocs⟩ : ∃ z : List Loc, z = [] := ⟨_, rfl⟩
  rw [← hH] at hP
  have hS : va_S A s.heap H locs := by rw [hH, hlocs]; exact va_S.rf
  suffices hgoal : W p l e _ s m _ below meth c H locs 0 0 _ _ by rw [hH, hlocs] at hgoal; exact hgoal
  refine lv_iload_n hx hb dX2_hasLine_0 rfl (lv_at hl 1 rfl) ?_
  refine lv_if_lt (tgt := 16) hx hb dX2_hasLine_1 (by decide) (fun c1 => ?_) (fun c1 => ?_)
  · rw [if_pos c1] at hf
    refine lv_iconst (v := 0) hx hb dX2_hasLine_16 (by decide) ?_
    have h1 := hf
    exact retZ hx hb hr hlocks hP hS (Or.inl rfl) h1 rfl dX2_hasLine_17
  rw [if_neg c1] at hf
  refine lv_iload_n hx hb dX2_hasLine_4 rfl (lv_at hl 1 rfl) ?_
  refine lv_aload_n hx hb dX2_hasLine_5 rfl (lv_at hl 0 rfl) ?_
  refine xg_1_2 hC hP tw_71 dX2_hasLine_6 ?_
  refine lv_icmp_ge (tgt := 16) hx hb dX2_hasLine_9 (by decide) (fun c2 => ?_) (fun c2 => ?_)
  · rw [if_pos c2] at hf
    refine lv_iconst (v := 0) hx hb dX2_hasLine_16 (by decide) ?_
    have h1 := hf
    exact retZ hx hb hr hlocks hP hS (Or.inl rfl) h1 rfl dX2_hasLine_17
  rw [if_neg c2] at hf
  refine lv_iconst (v := 1) hx hb dX2_hasLine_12 (by decide) ?_
  refine lv_goto (tgt := 17) hx hb dX2_hasLine_13 (by decide) ?_
  have h1 := hf
  exact retZ hx hb hr hlocks hP hS (Or.inr rfl) h1 rfl dX2_hasLine_17
theorem Net_hasLine_01 (x1 : Int32) (σ0 : St) : Net_hasLine x1 σ0 = 0 ∨ Net_hasLine x1 σ0 = 1 := by
  unfold Net_hasLine
  repeat (first | exact Or.inl rfl | exact Or.inr rfl | split)
theorem dX2_hasLines_0 : decode cX2_hasLines 0 = .ok (.iload_n 1, 1) := by decide +kernel
theorem dX2_hasLines_1 : decode cX2_hasLines 1 = .ok (.ifCond .lt 17, 3) := by decide +kernel
theorem dX2_hasLines_4 : decode cX2_hasLines 4 = .ok (.iload_n 1, 1) := by decide +kernel
theorem dX2_hasLines_5 : decode cX2_hasLines 5 = .ok (.iconst 1, 1) := by decide +kernel
theorem dX2_hasLines_6 : decode cX2_hasLines 6 = .ok (.aload_n 0, 1) := by decide +kernel
theorem dX2_hasLines_7 : decode cX2_hasLines 7 = .ok (.getfield 34, 3) := by decide +kernel
theorem dX2_hasLines_10 : decode cX2_hasLines 10 = .ok (.ishl, 1) := by decide +kernel
theorem dX2_hasLines_11 : decode cX2_hasLines 11 = .ok (.if_icmp .ge 7, 3) := by decide +kernel
theorem dX2_hasLines_14 : decode cX2_hasLines 14 = .ok (.iconst 1, 1) := by decide +kernel
theorem dX2_hasLines_15 : decode cX2_hasLines 15 = .ok (.goto 4, 3) := by decide +kernel
theorem dX2_hasLines_18 : decode cX2_hasLines 18 = .ok (.iconst 0, 1) := by decide +kernel
theorem dX2_hasLines_19 : decode cX2_hasLines 19 = .ok (.ireturn, 1) := by decide +kernel
def Net_hasLines (x1 : Int32) (σ0 : St) : Int32 := if x1 < 0 then 0 else if ((1 : Int32) <<< ((σ0.1 2) &&& 31)) ≤ x1 then 0 else 1
abbrev rm_Net_hasLines : Room := { frames := 0, cells := 0, slots := 0, locals := 0 }
set_option maxHeartbeats 4000000 in
set_option maxRecDepth 100000 in
theorem k_Net_hasLines (l : Launch) (ad : Nat → Nat) (cI cJ cZ : ClassId) {x1 : Int32} {σ0 : St} {r : Int32} (hf : Net_hasLines x1 σ0 = r) : CtI l yX2_hasLines (gws (.code yX2_hasLines cX2_hasLines 2 (some .boolean))) (rm_Net_hasLines) (ty3 cI cJ cZ) (xw ad cI cJ) [.ref (ad 1), .int x1] σ0 r σ0 := by
  refine CtI.of (by decide) (xw_ok ad cI cJ) (Nat.le_of_ble_eq_true rfl) ?_
  generalize hav : ([.ref (ad 1), .int x1] : List Value) = av
  intro p e s m below meth c D A hC ls hl hP hS
  obtain ⟨hx, hb, hr, hlocks, hml, hown, hts, hK, hN, hD, hA⟩ := id hC
  rw [← hav] at hl
  have hl : lv_has ls 2 [(0, .ref (ad 1)), (1, .int x1)] := hl
  unfold Net_hasLines at hf
  obtain ⟨H, hH⟩ : ∃ z, z = s.heap := ⟨_, rfl⟩
  obtain ⟨locs, hlocs⟩ : ∃ z : List Loc, z = [] := ⟨_, rfl⟩
  rw [← hH] at hP
  have hS : va_S A s.heap H locs := by rw [hH, hlocs]; exact va_S.rf
  suffices hgoal : W p l e _ s m _ below meth c H locs 0 0 _ _ by rw [hH, hlocs] at hgoal; exact hgoal
  refine lv_iload_n hx hb dX2_hasLines_0 rfl (lv_at hl 1 rfl) ?_
  refine lv_if_lt (tgt := 18) hx hb dX2_hasLines_1 (by decide) (fun c1 => ?_) (fun c1 => ?_)
  · rw [if_pos c1] at hf
    refine lv_iconst (v := 0) hx hb dX2_hasLines_18 (by decide) ?_
    have h1 := hf
    exact retZ hx hb hr hlocks hP hS (Or.inl rfl) h1 rfl dX2_hasLines_19
  rw [if_neg c1] at hf
  refine lv_iload_n hx hb dX2_hasLines_4 rfl (lv_at hl 1 rfl) ?_
  refine lv_iconst (v := 1) hx hb dX2_hasLines_5 (by decide) ?_
  refine lv_aload_n hx hb dX2_hasLines_6 rfl (lv_at hl 0 rfl) ?_
  refine xg_1_2 hC hP tw_71 dX2_hasLines_7 ?_
  refine lv_ishl hx hb dX2_hasLines_10 ?_
  refine lv_icmp_ge (tgt := 18) hx hb dX2_hasLines_11 (by decide) (fun c2 => ?_) (fun c2 => ?_)
  · rw [if_pos c2] at hf
    refine lv_iconst (v := 0) hx hb dX2_hasLines_18 (by decide) ?_
    have h1 := hf
    exact retZ hx hb hr hlocks hP hS (Or.inl rfl) h1 rfl dX2_hasLines_19
  rw [if_neg c2] at hf
  refine lv_iconst (v := 1) hx hb dX2_hasLines_14 (by decide) ?_
  refine lv_goto (tgt := 19) hx hb dX2_hasLines_15 (by decide) ?_
  have h1 := hf
  exact retZ hx hb hr hlocks hP hS (Or.inr rfl) h1 rfl dX2_hasLines_19
theorem Net_hasLines_01 (x1 : Int32) (σ0 : St) : Net_hasLines x1 σ0 = 0 ∨ Net_hasLines x1 σ0 = 1 := by
  unfold Net_hasLines
  repeat (first | exact Or.inl rfl | exact Or.inr rfl | split)
theorem dX2_isCut_0 : decode cX2_isCut 0 = .ok (.aload_n 0, 1) := by decide +kernel
theorem dX2_isCut_1 : decode cX2_isCut 1 = .ok (.getfield 40, 3) := by decide +kernel
theorem dX2_isCut_4 : decode cX2_isCut 4 = .ok (.iload_n 1, 1) := by decide +kernel
theorem dX2_isCut_5 : decode cX2_isCut 5 = .ok (.ishr, 1) := by decide +kernel
theorem dX2_isCut_6 : decode cX2_isCut 6 = .ok (.iconst 1, 1) := by decide +kernel
theorem dX2_isCut_7 : decode cX2_isCut 7 = .ok (.iand, 1) := by decide +kernel
theorem dX2_isCut_8 : decode cX2_isCut 8 = .ok (.ifCond .eq 7, 3) := by decide +kernel
theorem dX2_isCut_11 : decode cX2_isCut 11 = .ok (.iconst 1, 1) := by decide +kernel
theorem dX2_isCut_12 : decode cX2_isCut 12 = .ok (.goto 4, 3) := by decide +kernel
theorem dX2_isCut_15 : decode cX2_isCut 15 = .ok (.iconst 0, 1) := by decide +kernel
theorem dX2_isCut_16 : decode cX2_isCut 16 = .ok (.ireturn, 1) := by decide +kernel
def Net_isCut (x1 : Int32) (σ0 : St) : Int32 := if (((σ0.1 4) >>> (x1 &&& 31)) &&& 1) = 0 then 0 else 1
abbrev rm_Net_isCut : Room := { frames := 0, cells := 0, slots := 0, locals := 0 }
set_option maxHeartbeats 4000000 in
set_option maxRecDepth 100000 in
theorem k_Net_isCut (l : Launch) (ad : Nat → Nat) (cI cJ cZ : ClassId) {x1 : Int32} {σ0 : St} {r : Int32} (hf : Net_isCut x1 σ0 = r) : CtI l yX2_isCut (gws (.code yX2_isCut cX2_isCut 2 (some .boolean))) (rm_Net_isCut) (ty3 cI cJ cZ) (xw ad cI cJ) [.ref (ad 1), .int x1] σ0 r σ0 := by
  refine CtI.of (by decide) (xw_ok ad cI cJ) (Nat.le_of_ble_eq_true rfl) ?_
  generalize hav : ([.ref (ad 1), .int x1] : List Value) = av
  intro p e s m below meth c D A hC ls hl hP hS
  obtain ⟨hx, hb, hr, hlocks, hml, hown, hts, hK, hN, hD, hA⟩ := id hC
  rw [← hav] at hl
  have hl : lv_has ls 2 [(0, .ref (ad 1)), (1, .int x1)] := hl
  unfold Net_isCut at hf
  obtain ⟨H, hH⟩ : ∃ z, z = s.heap := ⟨_, rfl⟩
  obtain ⟨locs, hlocs⟩ : ∃ z : List Loc, z = [] := ⟨_, rfl⟩
  rw [← hH] at hP
  have hS : va_S A s.heap H locs := by rw [hH, hlocs]; exact va_S.rf
  suffices hgoal : W p l e _ s m _ below meth c H locs 0 0 _ _ by rw [hH, hlocs] at hgoal; exact hgoal
  refine lv_aload_n hx hb dX2_isCut_0 rfl (lv_at hl 0 rfl) ?_
  refine xg_1_4 hC hP tw_76 dX2_isCut_1 ?_
  refine lv_iload_n hx hb dX2_isCut_4 rfl (lv_at hl 1 rfl) ?_
  refine lv_ishr hx hb dX2_isCut_5 ?_
  refine lv_iconst (v := 1) hx hb dX2_isCut_6 (by decide) ?_
  refine lv_iand hx hb dX2_isCut_7 ?_
  refine lv_if_eq (tgt := 15) hx hb dX2_isCut_8 (by decide) (fun c1 => ?_) (fun c1 => ?_)
  · rw [if_pos c1] at hf
    refine lv_iconst (v := 0) hx hb dX2_isCut_15 (by decide) ?_
    have h1 := hf
    exact retZ hx hb hr hlocks hP hS (Or.inl rfl) h1 rfl dX2_isCut_16
  rw [if_neg c1] at hf
  refine lv_iconst (v := 1) hx hb dX2_isCut_11 (by decide) ?_
  refine lv_goto (tgt := 16) hx hb dX2_isCut_12 (by decide) ?_
  have h1 := hf
  exact retZ hx hb hr hlocks hP hS (Or.inr rfl) h1 rfl dX2_isCut_16
theorem Net_isCut_01 (x1 : Int32) (σ0 : St) : Net_isCut x1 σ0 = 0 ∨ Net_isCut x1 σ0 = 1 := by
  unfold Net_isCut
  repeat (first | exact Or.inl rfl | exact Or.inr rfl | split)
theorem dX2_redsIn_0 : decode cX2_redsIn 0 = .ok (.iload_n 1, 1) := by decide +kernel
theorem dX2_redsIn_1 : decode cX2_redsIn 1 = .ok (.aload_n 0, 1) := by decide +kernel
theorem dX2_redsIn_2 : decode cX2_redsIn 2 = .ok (.getfield 37, 3) := by decide +kernel
theorem dX2_redsIn_5 : decode cX2_redsIn 5 = .ok (.iand, 1) := by decide +kernel
theorem dX2_redsIn_6 : decode cX2_redsIn 6 = .ok (.invokestatic 49, 3) := by decide +kernel
theorem dX2_redsIn_9 : decode cX2_redsIn 9 = .ok (.ireturn, 1) := by decide +kernel
def Net_redsIn (x1 : Int32) (σ0 : St) : Int32 := (J_bc (x1 &&& (σ0.1 3)))
abbrev rm_Net_redsIn : Room := { frames := 1, cells := 0, slots := 0, locals := 20 }
set_option maxHeartbeats 4000000 in
set_option maxRecDepth 100000 in
theorem k_Net_redsIn (l : Launch) (ad : Nat → Nat) (cI cJ cZ : ClassId) {x1 : Int32} {σ0 : St} {r : Int32} (hf : Net_redsIn x1 σ0 = r) : CtI l yX2_redsIn (gws (.code yX2_redsIn cX2_redsIn 2 (some .int))) (rm_Net_redsIn) (ty3 cI cJ cZ) (xw ad cI cJ) [.ref (ad 1), .int x1] σ0 r σ0 := by
  refine CtI.of (by decide) (xw_ok ad cI cJ) (Nat.le_of_ble_eq_true rfl) ?_
  generalize hav : ([.ref (ad 1), .int x1] : List Value) = av
  intro p e s m below meth c D A hC ls hl hP hS
  obtain ⟨hx, hb, hr, hlocks, hml, hown, hts, hK, hN, hD, hA⟩ := id hC
  rw [← hav] at hl
  have hl : lv_has ls 2 [(0, .ref (ad 1)), (1, .int x1)] := hl
  unfold Net_redsIn at hf
  obtain ⟨H, hH⟩ : ∃ z, z = s.heap := ⟨_, rfl⟩
  obtain ⟨locs, hlocs⟩ : ∃ z : List Loc, z = [] := ⟨_, rfl⟩
  rw [← hH] at hP
  have hS : va_S A s.heap H locs := by rw [hH, hlocs]; exact va_S.rf
  suffices hgoal : W p l e _ s m _ below meth c H locs 0 0 _ _ by rw [hH, hlocs] at hgoal; exact hgoal
  refine lv_iload_n hx hb dX2_redsIn_0 rfl (lv_at hl 1 rfl) ?_
  refine lv_aload_n hx hb dX2_redsIn_1 rfl (lv_at hl 0 rfl) ?_
  refine xg_1_3 hC hP tw_74 dX2_redsIn_2 ?_
  refine lv_iand hx hb dX2_redsIn_5 ?_
  refine cSi (As := [.int (x1 &&& (σ0.1 3))]) (rest := []) hC (k_J_bc l (xw ad cI cJ) (xw_ok ad cI cJ) (ty3 cI cJ cZ) _ rfl) yy_J6_bitCount_0f7a4 tw_549 rfl rfl ⟨by decide, by decide⟩ hP hS rfl hl.1 rfl (Nat.le_of_ble_eq_true rfl) dX2_redsIn_6 (fun H locs hP hS => ?_)
  have h1 := hf
  exact retI hx hb hr hlocks hP hS h1 rfl dX2_redsIn_9
theorem dX2_mostLinesAtAPost_0 : decode cX2_mostLinesAtAPost 0 = .ok (.iconst 0, 1) := by decide +kernel
theorem dX2_mostLinesAtAPost_1 : decode cX2_mostLinesAtAPost 1 = .ok (.istore_n 2, 1) := by decide +kernel
theorem dX2_mostLinesAtAPost_2 : decode cX2_mostLinesAtAPost 2 = .ok (.iconst 0, 1) := by decide +kernel
theorem dX2_mostLinesAtAPost_3 : decode cX2_mostLinesAtAPost 3 = .ok (.istore_n 3, 1) := by decide +kernel
theorem dX2_mostLinesAtAPost_4 : decode cX2_mostLinesAtAPost 4 = .ok (.iload_n 3, 1) := by decide +kernel
theorem dX2_mostLinesAtAPost_5 : decode cX2_mostLinesAtAPost 5 = .ok (.aload_n 0, 1) := by decide +kernel
theorem dX2_mostLinesAtAPost_6 : decode cX2_mostLinesAtAPost 6 = .ok (.getfield 27, 3) := by decide +kernel
theorem dX2_mostLinesAtAPost_9 : decode cX2_mostLinesAtAPost 9 = .ok (.if_icmp .ge 25, 3) := by decide +kernel
theorem dX2_mostLinesAtAPost_12 : decode cX2_mostLinesAtAPost 12 = .ok (.iload_n 2, 1) := by decide +kernel
theorem dX2_mostLinesAtAPost_13 : decode cX2_mostLinesAtAPost 13 = .ok (.iload_n 1, 1) := by decide +kernel
theorem dX2_mostLinesAtAPost_14 : decode cX2_mostLinesAtAPost 14 = .ok (.aload_n 0, 1) := by decide +kernel
theorem dX2_mostLinesAtAPost_15 : decode cX2_mostLinesAtAPost 15 = .ok (.getfield 15, 3) := by decide +kernel
theorem dX2_mostLinesAtAPost_18 : decode cX2_mostLinesAtAPost 18 = .ok (.iload_n 3, 1) := by decide +kernel
theorem dX2_mostLinesAtAPost_19 : decode cX2_mostLinesAtAPost 19 = .ok (.iaload, 1) := by decide +kernel
theorem dX2_mostLinesAtAPost_20 : decode cX2_mostLinesAtAPost 20 = .ok (.iand, 1) := by decide +kernel
theorem dX2_mostLinesAtAPost_21 : decode cX2_mostLinesAtAPost 21 = .ok (.invokestatic 49, 3) := by decide +kernel
theorem dX2_mostLinesAtAPost_24 : decode cX2_mostLinesAtAPost 24 = .ok (.invokestatic 55, 3) := by decide +kernel
theorem dX2_mostLinesAtAPost_27 : decode cX2_mostLinesAtAPost 27 = .ok (.istore_n 2, 1) := by decide +kernel
theorem dX2_mostLinesAtAPost_28 : decode cX2_mostLinesAtAPost 28 = .ok (.iinc 3 1, 3) := by decide +kernel
theorem dX2_mostLinesAtAPost_31 : decode cX2_mostLinesAtAPost 31 = .ok (.goto (-27), 3) := by decide +kernel
theorem dX2_mostLinesAtAPost_34 : decode cX2_mostLinesAtAPost 34 = .ok (.iload_n 2, 1) := by decide +kernel
theorem dX2_mostLinesAtAPost_35 : decode cX2_mostLinesAtAPost 35 = .ok (.ireturn, 1) := by decide +kernel
def Net_mostLinesAtAPost_4 (N : Nat) : Nat → Int32 → Int32 → Int32 → St → Option (Int32)
  | 0, _, _, _, _ => none
  | n + 1, x1, x2, x3, σ0 => if (σ0.1 0) ≤ x3 then some x2 else grd (inb x3 8) (lt ((imax x2 (J_bc (x1 &&& (σ0.2.1 1 (x3).toNatClampNeg))))) (fun y3 => Net_mostLinesAtAPost_4 N n x1 y3 (x3 + 1) σ0))
theorem Net_mostLinesAtAPost_4_s (N : Nat) (n : Nat) (x1 : Int32) (x2 : Int32) (x3 : Int32) (σ0 : St) : Net_mostLinesAtAPost_4 N (n + 1) x1 x2 x3 σ0 = if (σ0.1 0) ≤ x3 then some x2 else grd (inb x3 8) (lt ((imax x2 (J_bc (x1 &&& (σ0.2.1 1 (x3).toNatClampNeg))))) (fun y3 => Net_mostLinesAtAPost_4 N n x1 y3 (x3 + 1) σ0)) := rfl
def Net_mostLinesAtAPost (N : Nat) (x1 : Int32) (σ0 : St) : Option (Int32) := Net_mostLinesAtAPost_4 N N x1 0 0 σ0
abbrev rm_Net_mostLinesAtAPost : Room := { frames := 1, cells := 0, slots := 0, locals := 21 }
set_option maxHeartbeats 4000000 in
set_option maxRecDepth 100000 in
theorem k_Net_mostLinesAtAPost (l : Launch) (ad : Nat → Nat) (cI cJ cZ : ClassId) {N : Nat} {x1 : Int32} {σ0 : St} {r : Int32} (hf : Net_mostLinesAtAPost N x1 σ0 = some r) : CtI l yX2_mostLinesAtAPost (gws (.code yX2_mostLinesAtAPost cX2_mostLinesAtAPost 4 (some .int))) (rm_Net_mostLinesAtAPost) (ty3 cI cJ cZ) (xw ad cI cJ) [.ref (ad 1), .int x1] σ0 r σ0 := by
  refine CtI.of (by decide) (xw_ok ad cI cJ) (Nat.le_of_ble_eq_true rfl) ?_
  generalize hav : ([.ref (ad 1), .int x1] : List Value) = av
  intro p e s m below meth c D A hC ls hl hP hS
  obtain ⟨hx, hb, hr, hlocks, hml, hown, hts, hK, hN, hD, hA⟩ := id hC
  rw [← hav] at hl
  have hl : lv_has ls 4 [(0, .ref (ad 1)), (1, .int x1)] := hl
  unfold Net_mostLinesAtAPost at hf
  have hw_4 : ∀ (n : Nat), ∀ (x1 : Int32) (x2 : Int32) (x3 : Int32) (H : Heap) (locs : List Loc) (ls : Array Slot), va_P D vwCl ((xw ad cI cJ) σ0) H → va_S A s.heap H locs → lv_has ls 4 [(0, .ref (ad 1)), (1, .int x1), (2, .int x2), (3, .int x3)] → Net_mostLinesAtAPost_4 N n x1 x2 x3 σ0 = some r → W p l e (rm_Net_mostLinesAtAPost) s m av.toArray below meth c H locs 0 0 (QI below av.toArray s D A (xw ad cI cJ) r σ0) (F0 m 4 ls []) := by
    intro n
    induction n with
    | zero =>
      intro x1 x2 x3 H locs ls hP hS hl hf
      cases hf
    | succ n ih =>
      intro x1 x2 x3 H locs ls hP hS hl hf
      rw [Net_mostLinesAtAPost_4_s] at hf
      refine lv_iload_n hx hb dX2_mostLinesAtAPost_4 rfl (lv_at hl 3 rfl) ?_
      refine lv_aload_n hx hb dX2_mostLinesAtAPost_5 rfl (lv_at hl 0 rfl) ?_
      refine xg_1_0 hC hP tw_65 dX2_mostLinesAtAPost_6 ?_
      refine lv_icmp_ge (tgt := 34) hx hb dX2_mostLinesAtAPost_9 (by decide) (fun c1 => ?_) (fun c1 => ?_)
      · rw [if_pos c1] at hf
        refine lv_iload_n hx hb dX2_mostLinesAtAPost_34 rfl (lv_at hl 2 rfl) ?_
        have h1 := Option.some.inj hf
        exact retI hx hb hr hlocks hP hS h1 rfl dX2_mostLinesAtAPost_35
      rw [if_neg c1] at hf
      refine lv_iload_n hx hb dX2_mostLinesAtAPost_12 rfl (lv_at hl 2 rfl) ?_
      refine lv_iload_n hx hb dX2_mostLinesAtAPost_13 rfl (lv_at hl 1 rfl) ?_
      refine lv_aload_n hx hb dX2_mostLinesAtAPost_14 rfl (lv_at hl 0 rfl) ?_
      refine xg_1_6 hC hP tw_82 dX2_mostLinesAtAPost_15 ?_
      refine lv_iload_n hx hb dX2_mostLinesAtAPost_18 rfl (lv_at hl 3 rfl) ?_
      obtain ⟨g2, hf⟩ := grd_some hf
      refine xl_10 hC hP g2 dX2_mostLinesAtAPost_19 ?_
      refine lv_iand hx hb dX2_mostLinesAtAPost_20 ?_
      refine cSi (As := [.int (x1 &&& (σ0.2.1 1 (x3).toNatClampNeg))]) (rest := [.int x2]) hC (k_J_bc l (xw ad cI cJ) (xw_ok ad cI cJ) (ty3 cI cJ cZ) _ rfl) yy_J6_bitCount_0f7a4 tw_549 rfl rfl ⟨by decide, by decide⟩ hP hS rfl hl.1 rfl (Nat.le_of_ble_eq_true rfl) dX2_mostLinesAtAPost_21 (fun H locs hP hS => ?_)
      refine xmax hC hl.1 tw_558 (by decide) (Nat.le_trans (m := 21) (Nat.le_of_ble_eq_true rfl) (by decide)) dX2_mostLinesAtAPost_24 ?_
      obtain ⟨y3, ey3, hf⟩ := lt_e hf
      rw [← ey3]
      refine lv_istore_n (lv' := [(2, .int y3), (0, .ref (ad 1)), (1, .int x1), (3, .int x3)]) hx hb dX2_mostLinesAtAPost_27 rfl hl (by decide) rfl (fun ls hl => ?_)
      refine lv_iinc (v := (x3 + 1)) (lv' := [(3, .int (x3 + 1)), (2, .int y3), (0, .ref (ad 1)), (1, .int x1)]) hx hb dX2_mostLinesAtAPost_28 hl (k := 3) rfl rfl (by decide) rfl (fun ls hl => ?_)
      refine lv_goto (tgt := 4) hx hb dX2_mostLinesAtAPost_31 (by decide) ?_
      exact ih x1 y3 (x3 + 1) H locs ls hP hS (lv_sub hl [2, 3, 1, 0] rfl) hf
  obtain ⟨H, hH⟩ : ∃ z, z = s.heap := ⟨_, rfl⟩
  obtain ⟨locs, hlocs⟩ : ∃ z : List Loc, z = [] := ⟨_, rfl⟩
  rw [← hH] at hP
  have hS : va_S A s.heap H locs := by rw [hH, hlocs]; exact va_S.rf
  suffices hgoal : W p l e _ s m _ below meth c H locs 0 0 _ _ by rw [hH, hlocs] at hgoal; exact hgoal
  refine lv_iconst (v := 0) hx hb dX2_mostLinesAtAPost_0 (by decide) ?_
  refine lv_istore_n (lv' := [(2, .int 0), (0, .ref (ad 1)), (1, .int x1)]) hx hb dX2_mostLinesAtAPost_1 rfl hl (by decide) rfl (fun ls hl => ?_)
  refine lv_iconst (v := 0) hx hb dX2_mostLinesAtAPost_2 (by decide) ?_
  refine lv_istore_n (lv' := [(3, .int 0), (2, .int 0), (0, .ref (ad 1)), (1, .int x1)]) hx hb dX2_mostLinesAtAPost_3 rfl hl (by decide) rfl (fun ls hl => ?_)
  exact hw_4 N x1 0 0 H locs ls hP hS (lv_sub hl [2, 3, 1, 0] rfl) hf
theorem dX2_addLine_0 : decode cX2_addLine 0 = .ok (.aload_n 0, 1) := by decide +kernel
theorem dX2_addLine_1 : decode cX2_addLine 1 = .ok (.getfield 34, 3) := by decide +kernel
theorem dX2_addLine_4 : decode cX2_addLine 4 = .ok (.istore 5, 2) := by decide +kernel
theorem dX2_addLine_6 : decode cX2_addLine 6 = .ok (.aload_n 0, 1) := by decide +kernel
theorem dX2_addLine_7 : decode cX2_addLine 7 = .ok (.getfield 18, 3) := by decide +kernel
theorem dX2_addLine_10 : decode cX2_addLine 10 = .ok (.iload 5, 2) := by decide +kernel
theorem dX2_addLine_12 : decode cX2_addLine 12 = .ok (.iload_n 1, 1) := by decide +kernel
theorem dX2_addLine_13 : decode cX2_addLine 13 = .ok (.iastore, 1) := by decide +kernel
theorem dX2_addLine_14 : decode cX2_addLine 14 = .ok (.aload_n 0, 1) := by decide +kernel
theorem dX2_addLine_15 : decode cX2_addLine 15 = .ok (.getfield 21, 3) := by decide +kernel
theorem dX2_addLine_18 : decode cX2_addLine 18 = .ok (.iload 5, 2) := by decide +kernel
theorem dX2_addLine_20 : decode cX2_addLine 20 = .ok (.iload_n 2, 1) := by decide +kernel
theorem dX2_addLine_21 : decode cX2_addLine 21 = .ok (.iastore, 1) := by decide +kernel
theorem dX2_addLine_22 : decode cX2_addLine 22 = .ok (.aload_n 0, 1) := by decide +kernel
theorem dX2_addLine_23 : decode cX2_addLine 23 = .ok (.getfield 24, 3) := by decide +kernel
theorem dX2_addLine_26 : decode cX2_addLine 26 = .ok (.iload 5, 2) := by decide +kernel
theorem dX2_addLine_28 : decode cX2_addLine 28 = .ok (.iload_n 3, 1) := by decide +kernel
theorem dX2_addLine_29 : decode cX2_addLine 29 = .ok (.iastore, 1) := by decide +kernel
theorem dX2_addLine_30 : decode cX2_addLine 30 = .ok (.aload_n 0, 1) := by decide +kernel
theorem dX2_addLine_31 : decode cX2_addLine 31 = .ok (.dup, 1) := by decide +kernel
theorem dX2_addLine_32 : decode cX2_addLine 32 = .ok (.getfield 37, 3) := by decide +kernel
theorem dX2_addLine_35 : decode cX2_addLine 35 = .ok (.iload 4, 2) := by decide +kernel
theorem dX2_addLine_37 : decode cX2_addLine 37 = .ok (.iload 5, 2) := by decide +kernel
theorem dX2_addLine_39 : decode cX2_addLine 39 = .ok (.ishl, 1) := by decide +kernel
theorem dX2_addLine_40 : decode cX2_addLine 40 = .ok (.ior, 1) := by decide +kernel
theorem dX2_addLine_41 : decode cX2_addLine 41 = .ok (.putfield 37, 3) := by decide +kernel
theorem dX2_addLine_44 : decode cX2_addLine 44 = .ok (.aload_n 0, 1) := by decide +kernel
theorem dX2_addLine_45 : decode cX2_addLine 45 = .ok (.getfield 15, 3) := by decide +kernel
theorem dX2_addLine_48 : decode cX2_addLine 48 = .ok (.iload_n 1, 1) := by decide +kernel
theorem dX2_addLine_49 : decode cX2_addLine 49 = .ok (.dup2, 1) := by decide +kernel
theorem dX2_addLine_50 : decode cX2_addLine 50 = .ok (.iaload, 1) := by decide +kernel
theorem dX2_addLine_51 : decode cX2_addLine 51 = .ok (.iconst 1, 1) := by decide +kernel
theorem dX2_addLine_52 : decode cX2_addLine 52 = .ok (.iload 5, 2) := by decide +kernel
theorem dX2_addLine_54 : decode cX2_addLine 54 = .ok (.ishl, 1) := by decide +kernel
theorem dX2_addLine_55 : decode cX2_addLine 55 = .ok (.ior, 1) := by decide +kernel
theorem dX2_addLine_56 : decode cX2_addLine 56 = .ok (.iastore, 1) := by decide +kernel
theorem dX2_addLine_57 : decode cX2_addLine 57 = .ok (.aload_n 0, 1) := by decide +kernel
theorem dX2_addLine_58 : decode cX2_addLine 58 = .ok (.getfield 15, 3) := by decide +kernel
theorem dX2_addLine_61 : decode cX2_addLine 61 = .ok (.iload_n 2, 1) := by decide +kernel
theorem dX2_addLine_62 : decode cX2_addLine 62 = .ok (.dup2, 1) := by decide +kernel
theorem dX2_addLine_63 : decode cX2_addLine 63 = .ok (.iaload, 1) := by decide +kernel
theorem dX2_addLine_64 : decode cX2_addLine 64 = .ok (.iconst 1, 1) := by decide +kernel
theorem dX2_addLine_65 : decode cX2_addLine 65 = .ok (.iload 5, 2) := by decide +kernel
theorem dX2_addLine_67 : decode cX2_addLine 67 = .ok (.ishl, 1) := by decide +kernel
theorem dX2_addLine_68 : decode cX2_addLine 68 = .ok (.ior, 1) := by decide +kernel
theorem dX2_addLine_69 : decode cX2_addLine 69 = .ok (.iastore, 1) := by decide +kernel
theorem dX2_addLine_70 : decode cX2_addLine 70 = .ok (.aload_n 0, 1) := by decide +kernel
theorem dX2_addLine_71 : decode cX2_addLine 71 = .ok (.dup, 1) := by decide +kernel
theorem dX2_addLine_72 : decode cX2_addLine 72 = .ok (.getfield 34, 3) := by decide +kernel
theorem dX2_addLine_75 : decode cX2_addLine 75 = .ok (.iconst 1, 1) := by decide +kernel
theorem dX2_addLine_76 : decode cX2_addLine 76 = .ok (.iadd, 1) := by decide +kernel
theorem dX2_addLine_77 : decode cX2_addLine 77 = .ok (.putfield 34, 3) := by decide +kernel
theorem dX2_addLine_80 : decode cX2_addLine 80 = .ok (.iload 5, 2) := by decide +kernel
theorem dX2_addLine_82 : decode cX2_addLine 82 = .ok (.ireturn, 1) := by decide +kernel
def Net_addLine (N : Nat) (x1 : Int32) (x2 : Int32) (x3 : Int32) (x4 : Int32) (σ0 : St) : Option (Int32 × St) := grd (inb (σ0.1 2) 14) (lt (sa σ0 2 ((σ0.1 2)).toNatClampNeg x1) (fun σ2 => grd (inb (σ0.1 2) 14) (lt (sa σ2 3 ((σ0.1 2)).toNatClampNeg x2) (fun σ4 => grd (inb (σ0.1 2) 14) (lt (sa σ4 4 ((σ0.1 2)).toNatClampNeg x3) (fun σ6 => lt (si σ6 3 ((σ6.1 3) ||| (x4 <<< ((σ0.1 2) &&& 31)))) (fun σ7 => grd (inb x1 8) (grd (inb x1 8) (lt (sa σ7 1 (x1).toNatClampNeg ((σ7.2.1 1 (x1).toNatClampNeg) ||| ((1 : Int32) <<< ((σ0.1 2) &&& 31)))) (fun σ10 => grd (inb x2 8) (grd (inb x2 8) (lt (sa σ10 1 (x2).toNatClampNeg ((σ10.2.1 1 (x2).toNatClampNeg) ||| ((1 : Int32) <<< ((σ0.1 2) &&& 31)))) (fun σ13 => lt (si σ13 2 ((σ13.1 2) + 1)) (fun σ14 => some ((σ0.1 2), σ14)))))))))))))))
abbrev rm_Net_addLine : Room := { frames := 0, cells := 0, slots := 0, locals := 0 }
set_option maxHeartbeats 4000000 in
set_option maxRecDepth 100000 in
theorem k_Net_addLine (l : Launch) (ad : Nat → Nat) (cI cJ cZ : ClassId) {N : Nat} {x1 : Int32} {x2 : Int32} {x3 : Int32} {x4 : Int32} {σ0 : St} {r : Int32} {τ : St} (hf : Net_addLine N x1 x2 x3 x4 σ0 = some (r, τ)) : CtI l yX2_addLine (gws (.code yX2_addLine cX2_addLine 6 (some .int))) (rm_Net_addLine) (ty3 cI cJ cZ) (xw ad cI cJ) [.ref (ad 1), .int x1, .int x2, .int x3, .int x4] σ0 r τ := by
  refine CtI.of (by decide) (xw_ok ad cI cJ) (Nat.le_of_ble_eq_true rfl) ?_
  generalize hav : ([.ref (ad 1), .int x1, .int x2, .int x3, .int x4] : List Value) = av
  intro p e s m below meth c D A hC ls hl hP hS
  obtain ⟨hx, hb, hr, hlocks, hml, hown, hts, hK, hN, hD, hA⟩ := id hC
  rw [← hav] at hl
  have hl : lv_has ls 6 [(0, .ref (ad 1)), (1, .int x1), (2, .int x2), (3, .int x3), (4, .int x4)] := hl
  unfold Net_addLine at hf
  obtain ⟨H, hH⟩ : ∃ z, z = s.heap := ⟨_, rfl⟩
  obtain ⟨locs, hlocs⟩ : ∃ z : List Loc, z = [] := ⟨_, rfl⟩
  rw [← hH] at hP
  have hS : va_S A s.heap H locs := by rw [hH, hlocs]; exact va_S.rf
  suffices hgoal : W p l e _ s m _ below meth c H locs 0 0 _ _ by rw [hH, hlocs] at hgoal; exact hgoal
  refine lv_aload_n hx hb dX2_addLine_0 rfl (lv_at hl 0 rfl) ?_
  refine xg_1_2 hC hP tw_71 dX2_addLine_1 ?_
  refine lv_istore (lv' := [(5, .int (σ0.1 2)), (0, .ref (ad 1)), (1, .int x1), (2, .int x2), (3, .int x3), (4, .int x4)]) hx hb dX2_addLine_4 hl (by decide) rfl (fun ls hl => ?_)
  refine lv_aload_n hx hb dX2_addLine_6 rfl (lv_at hl 1 rfl) ?_
  refine xg_1_7 hC hP tw_85 dX2_addLine_7 ?_
  refine lv_iload hx hb dX2_addLine_10 (lv_at hl 0 rfl) ?_
  refine lv_iload_n hx hb dX2_addLine_12 rfl (lv_at hl 2 rfl) ?_
  obtain ⟨g1, hf⟩ := grd_some hf
  refine xs_11 hC hP hS g1 dX2_addLine_13 (fun H locs hP hS => ?_)
  obtain ⟨σ2, eσ2, hf⟩ := lt_e hf
  rw [← eσ2] at hP
  refine lv_aload_n hx hb dX2_addLine_14 rfl (lv_at hl 1 rfl) ?_
  refine xg_1_8 hC hP tw_89 dX2_addLine_15 ?_
  refine lv_iload hx hb dX2_addLine_18 (lv_at hl 0 rfl) ?_
  refine lv_iload_n hx hb dX2_addLine_20 rfl (lv_at hl 3 rfl) ?_
  obtain ⟨g3, hf⟩ := grd_some hf
  refine xs_12 hC hP hS g3 dX2_addLine_21 (fun H locs hP hS => ?_)
  obtain ⟨σ4, eσ4, hf⟩ := lt_e hf
  rw [← eσ4] at hP
  refine lv_aload_n hx hb dX2_addLine_22 rfl (lv_at hl 1 rfl) ?_
  refine xg_1_9 hC hP tw_93 dX2_addLine_23 ?_
  refine lv_iload hx hb dX2_addLine_26 (lv_at hl 0 rfl) ?_
  refine lv_iload_n hx hb dX2_addLine_28 rfl (lv_at hl 4 rfl) ?_
  obtain ⟨g5, hf⟩ := grd_some hf
  refine xs_13 hC hP hS g5 dX2_addLine_29 (fun H locs hP hS => ?_)
  obtain ⟨σ6, eσ6, hf⟩ := lt_e hf
  rw [← eσ6] at hP
  refine lv_aload_n hx hb dX2_addLine_30 rfl (lv_at hl 1 rfl) ?_
  refine lv_dup hx hb dX2_addLine_31 rfl ?_
  refine xg_1_3 hC hP tw_74 dX2_addLine_32 ?_
  refine lv_iload hx hb dX2_addLine_35 (lv_at hl 5 rfl) ?_
  refine lv_iload hx hb dX2_addLine_37 (lv_at hl 0 rfl) ?_
  refine lv_ishl hx hb dX2_addLine_39 ?_
  refine lv_ior hx hb dX2_addLine_40 ?_
  refine xp_1_3 hC hP hS tw_74 dX2_addLine_41 (fun H locs hP hS => ?_)
  obtain ⟨σ7, eσ7, hf⟩ := lt_e hf
  rw [← eσ7] at hP
  refine lv_aload_n hx hb dX2_addLine_44 rfl (lv_at hl 1 rfl) ?_
  refine xg_1_6 hC hP tw_82 dX2_addLine_45 ?_
  refine lv_iload_n hx hb dX2_addLine_48 rfl (lv_at hl 2 rfl) ?_
  refine lv_dup2_11 hx hb dX2_addLine_49 rfl rfl ?_
  obtain ⟨g8, hf⟩ := grd_some hf
  refine xl_10 hC hP g8 dX2_addLine_50 ?_
  refine lv_iconst (v := 1) hx hb dX2_addLine_51 (by decide) ?_
  refine lv_iload hx hb dX2_addLine_52 (lv_at hl 0 rfl) ?_
  refine lv_ishl hx hb dX2_addLine_54 ?_
  refine lv_ior hx hb dX2_addLine_55 ?_
  obtain ⟨g9, hf⟩ := grd_some hf
  refine xs_10 hC hP hS g9 dX2_addLine_56 (fun H locs hP hS => ?_)
  obtain ⟨σ10, eσ10, hf⟩ := lt_e hf
  rw [← eσ10] at hP
  refine lv_aload_n hx hb dX2_addLine_57 rfl (lv_at hl 1 rfl) ?_
  refine xg_1_6 hC hP tw_82 dX2_addLine_58 ?_
  refine lv_iload_n hx hb dX2_addLine_61 rfl (lv_at hl 3 rfl) ?_
  refine lv_dup2_11 hx hb dX2_addLine_62 rfl rfl ?_
  obtain ⟨g11, hf⟩ := grd_some hf
  refine xl_10 hC hP g11 dX2_addLine_63 ?_
  refine lv_iconst (v := 1) hx hb dX2_addLine_64 (by decide) ?_
  refine lv_iload hx hb dX2_addLine_65 (lv_at hl 0 rfl) ?_
  refine lv_ishl hx hb dX2_addLine_67 ?_
  refine lv_ior hx hb dX2_addLine_68 ?_
  obtain ⟨g12, hf⟩ := grd_some hf
  refine xs_10 hC hP hS g12 dX2_addLine_69 (fun H locs hP hS => ?_)
  obtain ⟨σ13, eσ13, hf⟩ := lt_e hf
  rw [← eσ13] at hP
  refine lv_aload_n hx hb dX2_addLine_70 rfl (lv_at hl 1 rfl) ?_
  refine lv_dup hx hb dX2_addLine_71 rfl ?_
  refine xg_1_2 hC hP tw_71 dX2_addLine_72 ?_
  refine lv_iconst (v := 1) hx hb dX2_addLine_75 (by decide) ?_
  refine lv_iadd hx hb dX2_addLine_76 ?_
  refine xp_1_2 hC hP hS tw_71 dX2_addLine_77 (fun H locs hP hS => ?_)
  obtain ⟨σ14, eσ14, hf⟩ := lt_e hf
  rw [← eσ14] at hP
  refine lv_iload hx hb dX2_addLine_80 (lv_at hl 0 rfl) ?_
  obtain ⟨h1, h2⟩ := ret2 hf
  exact retI hx hb hr hlocks hP hS h1 h2 dX2_addLine_82
theorem dX2_clear_0 : decode cX2_clear 0 = .ok (.aload_n 0, 1) := by decide +kernel
theorem dX2_clear_1 : decode cX2_clear 1 = .ok (.iload_n 1, 1) := by decide +kernel
theorem dX2_clear_2 : decode cX2_clear 2 = .ok (.putfield 27, 3) := by decide +kernel
theorem dX2_clear_5 : decode cX2_clear 5 = .ok (.aload_n 0, 1) := by decide +kernel
theorem dX2_clear_6 : decode cX2_clear 6 = .ok (.iconst 0, 1) := by decide +kernel
theorem dX2_clear_7 : decode cX2_clear 7 = .ok (.putfield 31, 3) := by decide +kernel
theorem dX2_clear_10 : decode cX2_clear 10 = .ok (.aload_n 0, 1) := by decide +kernel
theorem dX2_clear_11 : decode cX2_clear 11 = .ok (.iconst 0, 1) := by decide +kernel
theorem dX2_clear_12 : decode cX2_clear 12 = .ok (.putfield 34, 3) := by decide +kernel
theorem dX2_clear_15 : decode cX2_clear 15 = .ok (.aload_n 0, 1) := by decide +kernel
theorem dX2_clear_16 : decode cX2_clear 16 = .ok (.iconst 0, 1) := by decide +kernel
theorem dX2_clear_17 : decode cX2_clear 17 = .ok (.putfield 37, 3) := by decide +kernel
theorem dX2_clear_20 : decode cX2_clear 20 = .ok (.aload_n 0, 1) := by decide +kernel
theorem dX2_clear_21 : decode cX2_clear 21 = .ok (.iconst 0, 1) := by decide +kernel
theorem dX2_clear_22 : decode cX2_clear 22 = .ok (.putfield 40, 3) := by decide +kernel
theorem dX2_clear_25 : decode cX2_clear 25 = .ok (.aload_n 0, 1) := by decide +kernel
theorem dX2_clear_26 : decode cX2_clear 26 = .ok (.getfield 9, 3) := by decide +kernel
theorem dX2_clear_29 : decode cX2_clear 29 = .ok (.iconst 1, 1) := by decide +kernel
theorem dX2_clear_30 : decode cX2_clear 30 = .ok (.invokestatic 43, 3) := by decide +kernel
theorem dX2_clear_33 : decode cX2_clear 33 = .ok (.aload_n 0, 1) := by decide +kernel
theorem dX2_clear_34 : decode cX2_clear 34 = .ok (.getfield 15, 3) := by decide +kernel
theorem dX2_clear_37 : decode cX2_clear 37 = .ok (.iconst 0, 1) := by decide +kernel
theorem dX2_clear_38 : decode cX2_clear 38 = .ok (.invokestatic 43, 3) := by decide +kernel
theorem dX2_clear_41 : decode cX2_clear 41 = .ok (.return_, 1) := by decide +kernel
def Net_clear (x1 : Int32) (σ0 : St) : St := lt (si σ0 0 x1) (fun σ1 => lt (si σ1 1 0) (fun σ2 => lt (si σ2 2 0) (fun σ3 => lt (si σ3 3 0) (fun σ4 => lt (si σ4 4 0) (fun σ5 => lt (fillI σ5 0 8 1) (fun σ6 => lt (fillI σ6 1 8 0) (fun σ7 => σ7)))))))
abbrev rm_Net_clear : Room := { frames := 1, cells := 0, slots := 0, locals := 23 }
set_option maxHeartbeats 4000000 in
set_option maxRecDepth 100000 in
theorem k_Net_clear (l : Launch) (ad : Nat → Nat) (cI cJ cZ : ClassId) {x1 : Int32} {σ0 : St} {τ : St} (hf : Net_clear x1 σ0 = τ) : CtV l yX2_clear (gws (.code yX2_clear cX2_clear 2 none)) (rm_Net_clear) (ty3 cI cJ cZ) (xw ad cI cJ) [.ref (ad 1), .int x1] σ0 τ := by
  refine CtV.of (by decide) (xw_ok ad cI cJ) (Nat.le_of_ble_eq_true rfl) ?_
  generalize hav : ([.ref (ad 1), .int x1] : List Value) = av
  intro p e s m below meth c D A hC ls hl hP hS
  obtain ⟨hx, hb, hr, hlocks, hml, hown, hts, hK, hN, hD, hA⟩ := id hC
  rw [← hav] at hl
  have hl : lv_has ls 2 [(0, .ref (ad 1)), (1, .int x1)] := hl
  unfold Net_clear at hf
  obtain ⟨H, hH⟩ : ∃ z, z = s.heap := ⟨_, rfl⟩
  obtain ⟨locs, hlocs⟩ : ∃ z : List Loc, z = [] := ⟨_, rfl⟩
  rw [← hH] at hP
  have hS : va_S A s.heap H locs := by rw [hH, hlocs]; exact va_S.rf
  suffices hgoal : W p l e _ s m _ below meth c H locs 0 0 _ _ by rw [hH, hlocs] at hgoal; exact hgoal
  refine lv_aload_n hx hb dX2_clear_0 rfl (lv_at hl 0 rfl) ?_
  refine lv_iload_n hx hb dX2_clear_1 rfl (lv_at hl 1 rfl) ?_
  refine xp_1_0 hC hP hS tw_65 dX2_clear_2 (fun H locs hP hS => ?_)
  obtain ⟨σ1, eσ1, hf⟩ := lt_e hf
  rw [← eσ1] at hP
  refine lv_aload_n hx hb dX2_clear_5 rfl (lv_at hl 0 rfl) ?_
  refine lv_iconst (v := 0) hx hb dX2_clear_6 (by decide) ?_
  refine xp_1_1 hC hP hS tw_68 dX2_clear_7 (fun H locs hP hS => ?_)
  obtain ⟨σ2, eσ2, hf⟩ := lt_e hf
  rw [← eσ2] at hP
  refine lv_aload_n hx hb dX2_clear_10 rfl (lv_at hl 0 rfl) ?_
  refine lv_iconst (v := 0) hx hb dX2_clear_11 (by decide) ?_
  refine xp_1_2 hC hP hS tw_71 dX2_clear_12 (fun H locs hP hS => ?_)
  obtain ⟨σ3, eσ3, hf⟩ := lt_e hf
  rw [← eσ3] at hP
  refine lv_aload_n hx hb dX2_clear_15 rfl (lv_at hl 0 rfl) ?_
  refine lv_iconst (v := 0) hx hb dX2_clear_16 (by decide) ?_
  refine xp_1_3 hC hP hS tw_74 dX2_clear_17 (fun H locs hP hS => ?_)
  obtain ⟨σ4, eσ4, hf⟩ := lt_e hf
  rw [← eσ4] at hP
  refine lv_aload_n hx hb dX2_clear_20 rfl (lv_at hl 0 rfl) ?_
  refine lv_iconst (v := 0) hx hb dX2_clear_21 (by decide) ?_
  refine xp_1_4 hC hP hS tw_76 dX2_clear_22 (fun H locs hP hS => ?_)
  obtain ⟨σ5, eσ5, hf⟩ := lt_e hf
  rw [← eσ5] at hP
  refine lv_aload_n hx hb dX2_clear_25 rfl (lv_at hl 0 rfl) ?_
  refine xg_1_5 hC hP tw_79 dX2_clear_26 ?_
  refine lv_iconst (v := 1) hx hb dX2_clear_29 (by decide) ?_
  obtain ⟨σ6, eσ6, hf⟩ := lt_e hf
  refine cSv (As := [.ref (ad 9), .int 1]) (rest := []) hC (k_fill_9 l ad cI cJ cZ σ5 1) yy_J7_fill_53178 tw_336 rfl rfl ⟨by decide, by decide⟩ hP hS rfl hl.1 rfl (Nat.le_of_ble_eq_true rfl) dX2_clear_30 (fun H locs hP hS => ?_)
  rw [← eσ6] at hP
  refine lv_aload_n hx hb dX2_clear_33 rfl (lv_at hl 0 rfl) ?_
  refine xg_1_6 hC hP tw_82 dX2_clear_34 ?_
  refine lv_iconst (v := 0) hx hb dX2_clear_37 (by decide) ?_
  obtain ⟨σ7, eσ7, hf⟩ := lt_e hf
  refine cSv (As := [.ref (ad 10), .int 0]) (rest := []) hC (k_fill_10 l ad cI cJ cZ σ6 0) yy_J7_fill_53178 tw_336 rfl rfl ⟨by decide, by decide⟩ hP hS rfl hl.1 rfl (Nat.le_of_ble_eq_true rfl) dX2_clear_38 (fun H locs hP hS => ?_)
  rw [← eσ7] at hP
  have h2 := hf
  exact retV hx hb hr hlocks hP hS h2 dX2_clear_41
theorem dX5_clear_0 : decode cX5_clear 0 = .ok (.aload_n 0, 1) := by decide +kernel
theorem dX5_clear_1 : decode cX5_clear 1 = .ok (.getfield 9, 3) := by decide +kernel
theorem dX5_clear_4 : decode cX5_clear 4 = .ok (.lconst 0, 1) := by decide +kernel
theorem dX5_clear_5 : decode cX5_clear 5 = .ok (.invokestatic 15, 3) := by decide +kernel
theorem dX5_clear_8 : decode cX5_clear 8 = .ok (.return_, 1) := by decide +kernel
def Bits_clear  (σ0 : St) : St := lt (fillJ σ0 0 256 0) (fun σ1 => σ1)
abbrev rm_Bits_clear : Room := { frames := 1, cells := 0, slots := 0, locals := 24 }
set_option maxHeartbeats 4000000 in
set_option maxRecDepth 100000 in
theorem k_Bits_clear (l : Launch) (ad : Nat → Nat) (cI cJ cZ : ClassId)  {σ0 : St} {τ : St} (hf : Bits_clear σ0 = τ) : CtV l yX5_clear (gws (.code yX5_clear cX5_clear 1 none)) (rm_Bits_clear) (ty3 cI cJ cZ) (xw ad cI cJ) [.ref (ad 5)] σ0 τ := by
  refine CtV.of (by decide) (xw_ok ad cI cJ) (Nat.le_of_ble_eq_true rfl) ?_
  generalize hav : ([.ref (ad 5)] : List Value) = av
  intro p e s m below meth c D A hC ls hl hP hS
  obtain ⟨hx, hb, hr, hlocks, hml, hown, hts, hK, hN, hD, hA⟩ := id hC
  rw [← hav] at hl
  have hl : lv_has ls 1 [(0, .ref (ad 5))] := hl
  unfold Bits_clear at hf
  obtain ⟨H, hH⟩ : ∃ z, z = s.heap := ⟨_, rfl⟩
  obtain ⟨locs, hlocs⟩ : ∃ z : List Loc, z = [] := ⟨_, rfl⟩
  rw [← hH] at hP
  have hS : va_S A s.heap H locs := by rw [hH, hlocs]; exact va_S.rf
  suffices hgoal : W p l e _ s m _ below meth c H locs 0 0 _ _ by rw [hH, hlocs] at hgoal; exact hgoal
  refine lv_aload_n hx hb dX5_clear_0 rfl (lv_at hl 0 rfl) ?_
  refine xg_5_0 hC hP tw_194 dX5_clear_1 ?_
  refine lv_lconst (v := 0) hx hb dX5_clear_4 rfl ?_
  obtain ⟨σ1, eσ1, hf⟩ := lt_e hf
  refine cSv (As := [.ref (ad 27), .long 0]) (rest := []) hC (k_fill_27 l ad cI cJ cZ σ0 0) yy_J7_fill_d0a16 tw_352 rfl rfl ⟨by decide, by decide⟩ hP hS rfl hl.1 rfl (Nat.le_of_ble_eq_true rfl) dX5_clear_5 (fun H locs hP hS => ?_)
  rw [← eσ1] at hP
  have h2 := hf
  exact retV hx hb hr hlocks hP hS h2 dX5_clear_8
theorem dX5_put_0 : decode cX5_put 0 = .ok (.iload_n 1, 1) := by decide +kernel
theorem dX5_put_1 : decode cX5_put 1 = .ok (.bipush 14, 2) := by decide +kernel
theorem dX5_put_3 : decode cX5_put 3 = .ok (.iushr, 1) := by decide +kernel
theorem dX5_put_4 : decode cX5_put 4 = .ok (.ifCond .ne 18, 3) := by decide +kernel
theorem dX5_put_7 : decode cX5_put 7 = .ok (.aload_n 0, 1) := by decide +kernel
theorem dX5_put_8 : decode cX5_put 8 = .ok (.getfield 9, 3) := by decide +kernel
theorem dX5_put_11 : decode cX5_put 11 = .ok (.iload_n 1, 1) := by decide +kernel
theorem dX5_put_12 : decode cX5_put 12 = .ok (.bipush 6, 2) := by decide +kernel
theorem dX5_put_14 : decode cX5_put 14 = .ok (.ishr, 1) := by decide +kernel
theorem dX5_put_15 : decode cX5_put 15 = .ok (.dup2, 1) := by decide +kernel
theorem dX5_put_16 : decode cX5_put 16 = .ok (.laload, 1) := by decide +kernel
theorem dX5_put_17 : decode cX5_put 17 = .ok (.lconst 1, 1) := by decide +kernel
theorem dX5_put_18 : decode cX5_put 18 = .ok (.iload_n 1, 1) := by decide +kernel
theorem dX5_put_19 : decode cX5_put 19 = .ok (.lshl, 1) := by decide +kernel
theorem dX5_put_20 : decode cX5_put 20 = .ok (.lor, 1) := by decide +kernel
theorem dX5_put_21 : decode cX5_put 21 = .ok (.lastore, 1) := by decide +kernel
theorem dX5_put_22 : decode cX5_put 22 = .ok (.return_, 1) := by decide +kernel
def Bits_put (N : Nat) (x1 : Int32) (σ0 : St) : Option (St) := if (iushr x1 14) = 0 then grd (inb (x1 >>> (6 &&& 31)) 256) (grd (inb (x1 >>> (6 &&& 31)) 256) (lt (sj σ0 0 ((x1 >>> (6 &&& 31))).toNatClampNeg ((σ0.2.2 0 ((x1 >>> (6 &&& 31))).toNatClampNeg) ||| (1 <<< ((x1).toInt64 &&& 63)))) (fun σ4 => some σ4))) else some σ0
abbrev rm_Bits_put : Room := { frames := 0, cells := 0, slots := 0, locals := 0 }
set_option maxHeartbeats 4000000 in
set_option maxRecDepth 100000 in
theorem k_Bits_put (l : Launch) (ad : Nat → Nat) (cI cJ cZ : ClassId) {N : Nat} {x1 : Int32} {σ0 : St} {τ : St} (hf : Bits_put N x1 σ0 = some τ) : CtV l yX5_put (gws (.code yX5_put cX5_put 2 none)) (rm_Bits_put) (ty3 cI cJ cZ) (xw ad cI cJ) [.ref (ad 5), .int x1] σ0 τ := by
  refine CtV.of (by decide) (xw_ok ad cI cJ) (Nat.le_of_ble_eq_true rfl) ?_
  generalize hav : ([.ref (ad 5), .int x1] : List Value) = av
  intro p e s m below meth c D A hC ls hl hP hS
  obtain ⟨hx, hb, hr, hlocks, hml, hown, hts, hK, hN, hD, hA⟩ := id hC
  rw [← hav] at hl
  have hl : lv_has ls 2 [(0, .ref (ad 5)), (1, .int x1)] := hl
  unfold Bits_put at hf
  obtain ⟨H, hH⟩ : ∃ z, z = s.heap := ⟨_, rfl⟩
  obtain ⟨locs, hlocs⟩ : ∃ z : List Loc, z = [] := ⟨_, rfl⟩
  rw [← hH] at hP
  have hS : va_S A s.heap H locs := by rw [hH, hlocs]; exact va_S.rf
  suffices hgoal : W p l e _ s m _ below meth c H locs 0 0 _ _ by rw [hH, hlocs] at hgoal; exact hgoal
  refine lv_iload_n hx hb dX5_put_0 rfl (lv_at hl 1 rfl) ?_
  refine lv_bipush (v := 14) hx hb dX5_put_1 (by decide) ?_
  refine lv_iushr (v := (iushr x1 14)) hx hb dX5_put_3 rfl ?_
  refine lv_if_ne (tgt := 22) hx hb dX5_put_4 (by decide) (fun c1 => ?_) (fun c1 => ?_)
  · rw [if_neg c1] at hf
    have h2 := Option.some.inj hf
    exact retV hx hb hr hlocks hP hS h2 dX5_put_22
  rw [if_pos c1] at hf
  refine lv_aload_n hx hb dX5_put_7 rfl (lv_at hl 0 rfl) ?_
  refine xg_5_0 hC hP tw_194 dX5_put_8 ?_
  refine lv_iload_n hx hb dX5_put_11 rfl (lv_at hl 1 rfl) ?_
  refine lv_bipush (v := 6) hx hb dX5_put_12 (by decide) ?_
  refine lv_ishr hx hb dX5_put_14 ?_
  refine lv_dup2_11 hx hb dX5_put_15 rfl rfl ?_
  obtain ⟨g2, hf⟩ := grd_some hf
  refine xl_27 hC hP g2 dX5_put_16 ?_
  refine lv_lconst (v := 1) hx hb dX5_put_17 rfl ?_
  refine lv_iload_n hx hb dX5_put_18 rfl (lv_at hl 1 rfl) ?_
  refine lv_lshl (v := (1 <<< ((x1).toInt64 &&& 63))) hx hb dX5_put_19 rfl ?_
  refine lv_lor hx hb dX5_put_20 ?_
  obtain ⟨g3, hf⟩ := grd_some hf
  refine xs_27 hC hP hS g3 dX5_put_21 (fun H locs hP hS => ?_)
  obtain ⟨σ4, eσ4, hf⟩ := lt_e hf
  rw [← eσ4] at hP
  have h2 := Option.some.inj hf
  exact retV hx hb hr hlocks hP hS h2 dX5_put_22
theorem dX5_has_0 : decode cX5_has 0 = .ok (.iload_n 1, 1) := by decide +kernel
theorem dX5_has_1 : decode cX5_has 1 = .ok (.bipush 14, 2) := by decide +kernel
theorem dX5_has_3 : decode cX5_has 3 = .ok (.iushr, 1) := by decide +kernel
theorem dX5_has_4 : decode cX5_has 4 = .ok (.ifCond .ne 25, 3) := by decide +kernel
theorem dX5_has_7 : decode cX5_has 7 = .ok (.aload_n 0, 1) := by decide +kernel
theorem dX5_has_8 : decode cX5_has 8 = .ok (.getfield 9, 3) := by decide +kernel
theorem dX5_has_11 : decode cX5_has 11 = .ok (.iload_n 1, 1) := by decide +kernel
theorem dX5_has_12 : decode cX5_has 12 = .ok (.bipush 6, 2) := by decide +kernel
theorem dX5_has_14 : decode cX5_has 14 = .ok (.ishr, 1) := by decide +kernel
theorem dX5_has_15 : decode cX5_has 15 = .ok (.laload, 1) := by decide +kernel
theorem dX5_has_16 : decode cX5_has 16 = .ok (.iload_n 1, 1) := by decide +kernel
theorem dX5_has_17 : decode cX5_has 17 = .ok (.lshr, 1) := by decide +kernel
theorem dX5_has_18 : decode cX5_has 18 = .ok (.lconst 1, 1) := by decide +kernel
theorem dX5_has_19 : decode cX5_has 19 = .ok (.land, 1) := by decide +kernel
theorem dX5_has_20 : decode cX5_has 20 = .ok (.lconst 0, 1) := by decide +kernel
theorem dX5_has_21 : decode cX5_has 21 = .ok (.lcmp, 1) := by decide +kernel
theorem dX5_has_22 : decode cX5_has 22 = .ok (.ifCond .eq 7, 3) := by decide +kernel
theorem dX5_has_25 : decode cX5_has 25 = .ok (.iconst 1, 1) := by decide +kernel
theorem dX5_has_26 : decode cX5_has 26 = .ok (.goto 4, 3) := by decide +kernel
theorem dX5_has_29 : decode cX5_has 29 = .ok (.iconst 0, 1) := by decide +kernel
theorem dX5_has_30 : decode cX5_has 30 = .ok (.ireturn, 1) := by decide +kernel
def Bits_has (N : Nat) (x1 : Int32) (σ0 : St) : Option (Int32) := if (iushr x1 14) = 0 then grd (inb (x1 >>> (6 &&& 31)) 256) (if (lg_cmp (((σ0.2.2 0 ((x1 >>> (6 &&& 31))).toNatClampNeg) >>> ((x1).toInt64 &&& 63)) &&& 1) 0) = 0 then some 0 else some 1) else some 0
abbrev rm_Bits_has : Room := { frames := 0, cells := 0, slots := 0, locals := 0 }
set_option maxHeartbeats 4000000 in
set_option maxRecDepth 100000 in
theorem k_Bits_has (l : Launch) (ad : Nat → Nat) (cI cJ cZ : ClassId) {N : Nat} {x1 : Int32} {σ0 : St} {r : Int32} (hf : Bits_has N x1 σ0 = some r) : CtI l yX5_has (gws (.code yX5_has cX5_has 2 (some .boolean))) (rm_Bits_has) (ty3 cI cJ cZ) (xw ad cI cJ) [.ref (ad 5), .int x1] σ0 r σ0 := by
  refine CtI.of (by decide) (xw_ok ad cI cJ) (Nat.le_of_ble_eq_true rfl) ?_
  generalize hav : ([.ref (ad 5), .int x1] : List Value) = av
  intro p e s m below meth c D A hC ls hl hP hS
  obtain ⟨hx, hb, hr, hlocks, hml, hown, hts, hK, hN, hD, hA⟩ := id hC
  rw [← hav] at hl
  have hl : lv_has ls 2 [(0, .ref (ad 5)), (1, .int x1)] := hl
  unfold Bits_has at hf
  obtain ⟨H, hH⟩ : ∃ z, z = s.heap := ⟨_, rfl⟩
  obtain ⟨locs, hlocs⟩ : ∃ z : List Loc, z = [] := ⟨_, rfl⟩
  rw [← hH] at hP
  have hS : va_S A s.heap H locs := by rw [hH, hlocs]; exact va_S.rf
  suffices hgoal : W p l e _ s m _ below meth c H locs 0 0 _ _ by rw [hH, hlocs] at hgoal; exact hgoal
  refine lv_iload_n hx hb dX5_has_0 rfl (lv_at hl 1 rfl) ?_
  refine lv_bipush (v := 14) hx hb dX5_has_1 (by decide) ?_
  refine lv_iushr (v := (iushr x1 14)) hx hb dX5_has_3 rfl ?_
  refine lv_if_ne (tgt := 29) hx hb dX5_has_4 (by decide) (fun c1 => ?_) (fun c1 => ?_)
  · rw [if_neg c1] at hf
    refine lv_iconst (v := 0) hx hb dX5_has_29 (by decide) ?_
    have h1 := Option.some.inj hf
    exact retZ hx hb hr hlocks hP hS (Or.inl rfl) h1 rfl dX5_has_30
  rw [if_pos c1] at hf
  refine lv_aload_n hx hb dX5_has_7 rfl (lv_at hl 0 rfl) ?_
  refine xg_5_0 hC hP tw_194 dX5_has_8 ?_
  refine lv_iload_n hx hb dX5_has_11 rfl (lv_at hl 1 rfl) ?_
  refine lv_bipush (v := 6) hx hb dX5_has_12 (by decide) ?_
  refine lv_ishr hx hb dX5_has_14 ?_
  obtain ⟨g2, hf⟩ := grd_some hf
  refine xl_27 hC hP g2 dX5_has_15 ?_
  refine lv_iload_n hx hb dX5_has_16 rfl (lv_at hl 1 rfl) ?_
  refine lv_lshr (v := ((σ0.2.2 0 ((x1 >>> (6 &&& 31))).toNatClampNeg) >>> ((x1).toInt64 &&& 63))) hx hb dX5_has_17 rfl ?_
  refine lv_lconst (v := 1) hx hb dX5_has_18 rfl ?_
  refine lv_land hx hb dX5_has_19 ?_
  refine lv_lconst (v := 0) hx hb dX5_has_20 rfl ?_
  refine W.lcmp hx hb dX5_has_21 ?_
  refine lv_if_eq (tgt := 29) hx hb dX5_has_22 (by decide) (fun c3 => ?_) (fun c3 => ?_)
  · rw [if_pos c3] at hf
    refine lv_iconst (v := 0) hx hb dX5_has_29 (by decide) ?_
    have h1 := Option.some.inj hf
    exact retZ hx hb hr hlocks hP hS (Or.inl rfl) h1 rfl dX5_has_30
  rw [if_neg c3] at hf
  refine lv_iconst (v := 1) hx hb dX5_has_25 (by decide) ?_
  refine lv_goto (tgt := 30) hx hb dX5_has_26 (by decide) ?_
  have h1 := Option.some.inj hf
  exact retZ hx hb hr hlocks hP hS (Or.inr rfl) h1 rfl dX5_has_30
theorem dX5_hasInWordOf_0 : decode cX5_hasInWordOf 0 = .ok (.iload_n 1, 1) := by decide +kernel
theorem dX5_hasInWordOf_1 : decode cX5_hasInWordOf 1 = .ok (.bipush 14, 2) := by decide +kernel
theorem dX5_hasInWordOf_3 : decode cX5_hasInWordOf 3 = .ok (.iushr, 1) := by decide +kernel
theorem dX5_hasInWordOf_4 : decode cX5_hasInWordOf 4 = .ok (.ifCond .ne 21, 3) := by decide +kernel
theorem dX5_hasInWordOf_7 : decode cX5_hasInWordOf 7 = .ok (.aload_n 0, 1) := by decide +kernel
theorem dX5_hasInWordOf_8 : decode cX5_hasInWordOf 8 = .ok (.getfield 9, 3) := by decide +kernel
theorem dX5_hasInWordOf_11 : decode cX5_hasInWordOf 11 = .ok (.iload_n 1, 1) := by decide +kernel
theorem dX5_hasInWordOf_12 : decode cX5_hasInWordOf 12 = .ok (.bipush 6, 2) := by decide +kernel
theorem dX5_hasInWordOf_14 : decode cX5_hasInWordOf 14 = .ok (.ishr, 1) := by decide +kernel
theorem dX5_hasInWordOf_15 : decode cX5_hasInWordOf 15 = .ok (.laload, 1) := by decide +kernel
theorem dX5_hasInWordOf_16 : decode cX5_hasInWordOf 16 = .ok (.lconst 0, 1) := by decide +kernel
theorem dX5_hasInWordOf_17 : decode cX5_hasInWordOf 17 = .ok (.lcmp, 1) := by decide +kernel
theorem dX5_hasInWordOf_18 : decode cX5_hasInWordOf 18 = .ok (.ifCond .eq 7, 3) := by decide +kernel
theorem dX5_hasInWordOf_21 : decode cX5_hasInWordOf 21 = .ok (.iconst 1, 1) := by decide +kernel
theorem dX5_hasInWordOf_22 : decode cX5_hasInWordOf 22 = .ok (.goto 4, 3) := by decide +kernel
theorem dX5_hasInWordOf_25 : decode cX5_hasInWordOf 25 = .ok (.iconst 0, 1) := by decide +kernel
theorem dX5_hasInWordOf_26 : decode cX5_hasInWordOf 26 = .ok (.ireturn, 1) := by decide +kernel
def Bits_hasInWordOf (N : Nat) (x1 : Int32) (σ0 : St) : Option (Int32) := if (iushr x1 14) = 0 then grd (inb (x1 >>> (6 &&& 31)) 256) (if (lg_cmp (σ0.2.2 0 ((x1 >>> (6 &&& 31))).toNatClampNeg) 0) = 0 then some 0 else some 1) else some 0
abbrev rm_Bits_hasInWordOf : Room := { frames := 0, cells := 0, slots := 0, locals := 0 }
set_option maxHeartbeats 4000000 in
set_option maxRecDepth 100000 in
theorem k_Bits_hasInWordOf (l : Launch) (ad : Nat → Nat) (cI cJ cZ : ClassId) {N : Nat} {x1 : Int32} {σ0 : St} {r : Int32} (hf : Bits_hasInWordOf N x1 σ0 = some r) : CtI l yX5_hasInWordOf (gws (.code yX5_hasInWordOf cX5_hasInWordOf 2 (some .boolean))) (rm_Bits_hasInWordOf) (ty3 cI cJ cZ) (xw ad cI cJ) [.ref (ad 5), .int x1] σ0 r σ0 := by
  refine CtI.of (by decide) (xw_ok ad cI cJ) (Nat.le_of_ble_eq_true rfl) ?_
  generalize hav : ([.ref (ad 5), .int x1] : List Value) = av
  intro p e s m below meth c D A hC ls hl hP hS
  obtain ⟨hx, hb, hr, hlocks, hml, hown, hts, hK, hN, hD, hA⟩ := id hC
  rw [← hav] at hl
  have hl : lv_has ls 2 [(0, .ref (ad 5)), (1, .int x1)] := hl
  unfold Bits_hasInWordOf at hf
  obtain ⟨H, hH⟩ : ∃ z, z = s.heap := ⟨_, rfl⟩
  obtain ⟨locs, hlocs⟩ : ∃ z : List Loc, z = [] := ⟨_, rfl⟩
  rw [← hH] at hP
  have hS : va_S A s.heap H locs := by rw [hH, hlocs]; exact va_S.rf
  suffices hgoal : W p l e _ s m _ below meth c H locs 0 0 _ _ by rw [hH, hlocs] at hgoal; exact hgoal
  refine lv_iload_n hx hb dX5_hasInWordOf_0 rfl (lv_at hl 1 rfl) ?_
  refine lv_bipush (v := 14) hx hb dX5_hasInWordOf_1 (by decide) ?_
  refine lv_iushr (v := (iushr x1 14)) hx hb dX5_hasInWordOf_3 rfl ?_
  refine lv_if_ne (tgt := 25) hx hb dX5_hasInWordOf_4 (by decide) (fun c1 => ?_) (fun c1 => ?_)
  · rw [if_neg c1] at hf
    refine lv_iconst (v := 0) hx hb dX5_hasInWordOf_25 (by decide) ?_
    have h1 := Option.some.inj hf
    exact retZ hx hb hr hlocks hP hS (Or.inl rfl) h1 rfl dX5_hasInWordOf_26
  rw [if_pos c1] at hf
  refine lv_aload_n hx hb dX5_hasInWordOf_7 rfl (lv_at hl 0 rfl) ?_
  refine xg_5_0 hC hP tw_194 dX5_hasInWordOf_8 ?_
  refine lv_iload_n hx hb dX5_hasInWordOf_11 rfl (lv_at hl 1 rfl) ?_
  refine lv_bipush (v := 6) hx hb dX5_hasInWordOf_12 (by decide) ?_
  refine lv_ishr hx hb dX5_hasInWordOf_14 ?_
  obtain ⟨g2, hf⟩ := grd_some hf
  refine xl_27 hC hP g2 dX5_hasInWordOf_15 ?_
  refine lv_lconst (v := 0) hx hb dX5_hasInWordOf_16 rfl ?_
  refine W.lcmp hx hb dX5_hasInWordOf_17 ?_
  refine lv_if_eq (tgt := 25) hx hb dX5_hasInWordOf_18 (by decide) (fun c3 => ?_) (fun c3 => ?_)
  · rw [if_pos c3] at hf
    refine lv_iconst (v := 0) hx hb dX5_hasInWordOf_25 (by decide) ?_
    have h1 := Option.some.inj hf
    exact retZ hx hb hr hlocks hP hS (Or.inl rfl) h1 rfl dX5_hasInWordOf_26
  rw [if_neg c3] at hf
  refine lv_iconst (v := 1) hx hb dX5_hasInWordOf_21 (by decide) ?_
  refine lv_goto (tgt := 26) hx hb dX5_hasInWordOf_22 (by decide) ?_
  have h1 := Option.some.inj hf
  exact retZ hx hb hr hlocks hP hS (Or.inr rfl) h1 rfl dX5_hasInWordOf_26
theorem dX5_lesserInWordOf_0 : decode cX5_lesserInWordOf 0 = .ok (.iload_n 1, 1) := by decide +kernel
theorem dX5_lesserInWordOf_1 : decode cX5_lesserInWordOf 1 = .ok (.bipush 14, 2) := by decide +kernel
theorem dX5_lesserInWordOf_3 : decode cX5_lesserInWordOf 3 = .ok (.iushr, 1) := by decide +kernel
theorem dX5_lesserInWordOf_4 : decode cX5_lesserInWordOf 4 = .ok (.ifCond .ne 24, 3) := by decide +kernel
theorem dX5_lesserInWordOf_7 : decode cX5_lesserInWordOf 7 = .ok (.aload_n 0, 1) := by decide +kernel
theorem dX5_lesserInWordOf_8 : decode cX5_lesserInWordOf 8 = .ok (.getfield 9, 3) := by decide +kernel
theorem dX5_lesserInWordOf_11 : decode cX5_lesserInWordOf 11 = .ok (.iload_n 1, 1) := by decide +kernel
theorem dX5_lesserInWordOf_12 : decode cX5_lesserInWordOf 12 = .ok (.bipush 6, 2) := by decide +kernel
theorem dX5_lesserInWordOf_14 : decode cX5_lesserInWordOf 14 = .ok (.ishr, 1) := by decide +kernel
theorem dX5_lesserInWordOf_15 : decode cX5_lesserInWordOf 15 = .ok (.laload, 1) := by decide +kernel
theorem dX5_lesserInWordOf_16 : decode cX5_lesserInWordOf 16 = .ok (.lconst 1, 1) := by decide +kernel
theorem dX5_lesserInWordOf_17 : decode cX5_lesserInWordOf 17 = .ok (.iload_n 1, 1) := by decide +kernel
theorem dX5_lesserInWordOf_18 : decode cX5_lesserInWordOf 18 = .ok (.lshl, 1) := by decide +kernel
theorem dX5_lesserInWordOf_19 : decode cX5_lesserInWordOf 19 = .ok (.lconst 1, 1) := by decide +kernel
theorem dX5_lesserInWordOf_20 : decode cX5_lesserInWordOf 20 = .ok (.lsub, 1) := by decide +kernel
theorem dX5_lesserInWordOf_21 : decode cX5_lesserInWordOf 21 = .ok (.land, 1) := by decide +kernel
theorem dX5_lesserInWordOf_22 : decode cX5_lesserInWordOf 22 = .ok (.invokestatic 23, 3) := by decide +kernel
theorem dX5_lesserInWordOf_25 : decode cX5_lesserInWordOf 25 = .ok (.goto 4, 3) := by decide +kernel
theorem dX5_lesserInWordOf_28 : decode cX5_lesserInWordOf 28 = .ok (.iconst 0, 1) := by decide +kernel
theorem dX5_lesserInWordOf_29 : decode cX5_lesserInWordOf 29 = .ok (.ireturn, 1) := by decide +kernel
def Bits_lesserInWordOf (N : Nat) (x1 : Int32) (σ0 : St) : Option (Int32) := if (iushr x1 14) = 0 then grd (inb (x1 >>> (6 &&& 31)) 256) (some (J_bcl ((σ0.2.2 0 ((x1 >>> (6 &&& 31))).toNatClampNeg) &&& ((1 <<< ((x1).toInt64 &&& 63)) - 1)))) else some 0
abbrev rm_Bits_lesserInWordOf : Room := { frames := 1, cells := 0, slots := 0, locals := 21 }
set_option maxHeartbeats 4000000 in
set_option maxRecDepth 100000 in
theorem k_Bits_lesserInWordOf (l : Launch) (ad : Nat → Nat) (cI cJ cZ : ClassId) {N : Nat} {x1 : Int32} {σ0 : St} {r : Int32} (hf : Bits_lesserInWordOf N x1 σ0 = some r) : CtI l yX5_lesserInWordOf (gws (.code yX5_lesserInWordOf cX5_lesserInWordOf 2 (some .int))) (rm_Bits_lesserInWordOf) (ty3 cI cJ cZ) (xw ad cI cJ) [.ref (ad 5), .int x1] σ0 r σ0 := by
  refine CtI.of (by decide) (xw_ok ad cI cJ) (Nat.le_of_ble_eq_true rfl) ?_
  generalize hav : ([.ref (ad 5), .int x1] : List Value) = av
  intro p e s m below meth c D A hC ls hl hP hS
  obtain ⟨hx, hb, hr, hlocks, hml, hown, hts, hK, hN, hD, hA⟩ := id hC
  rw [← hav] at hl
  have hl : lv_has ls 2 [(0, .ref (ad 5)), (1, .int x1)] := hl
  unfold Bits_lesserInWordOf at hf
  obtain ⟨H, hH⟩ : ∃ z, z = s.heap := ⟨_, rfl⟩
  obtain ⟨locs, hlocs⟩ : ∃ z : List Loc, z = [] := ⟨_, rfl⟩
  rw [← hH] at hP
  have hS : va_S A s.heap H locs := by rw [hH, hlocs]; exact va_S.rf
  suffices hgoal : W p l e _ s m _ below meth c H locs 0 0 _ _ by rw [hH, hlocs] at hgoal; exact hgoal
  refine lv_iload_n hx hb dX5_lesserInWordOf_0 rfl (lv_at hl 1 rfl) ?_
  refine lv_bipush (v := 14) hx hb dX5_lesserInWordOf_1 (by decide) ?_
  refine lv_iushr (v := (iushr x1 14)) hx hb dX5_lesserInWordOf_3 rfl ?_
  refine lv_if_ne (tgt := 28) hx hb dX5_lesserInWordOf_4 (by decide) (fun c1 => ?_) (fun c1 => ?_)
  · rw [if_neg c1] at hf
    refine lv_iconst (v := 0) hx hb dX5_lesserInWordOf_28 (by decide) ?_
    have h1 := Option.some.inj hf
    exact retI hx hb hr hlocks hP hS h1 rfl dX5_lesserInWordOf_29
  rw [if_pos c1] at hf
  refine lv_aload_n hx hb dX5_lesserInWordOf_7 rfl (lv_at hl 0 rfl) ?_
  refine xg_5_0 hC hP tw_194 dX5_lesserInWordOf_8 ?_
  refine lv_iload_n hx hb dX5_lesserInWordOf_11 rfl (lv_at hl 1 rfl) ?_
  refine lv_bipush (v := 6) hx hb dX5_lesserInWordOf_12 (by decide) ?_
  refine lv_ishr hx hb dX5_lesserInWordOf_14 ?_
  obtain ⟨g2, hf⟩ := grd_some hf
  refine xl_27 hC hP g2 dX5_lesserInWordOf_15 ?_
  refine lv_lconst (v := 1) hx hb dX5_lesserInWordOf_16 rfl ?_
  refine lv_iload_n hx hb dX5_lesserInWordOf_17 rfl (lv_at hl 1 rfl) ?_
  refine lv_lshl (v := (1 <<< ((x1).toInt64 &&& 63))) hx hb dX5_lesserInWordOf_18 rfl ?_
  refine lv_lconst (v := 1) hx hb dX5_lesserInWordOf_19 rfl ?_
  refine lv_lsub hx hb dX5_lesserInWordOf_20 ?_
  refine lv_land hx hb dX5_lesserInWordOf_21 ?_
  refine cSi (As := [.long ((σ0.2.2 0 ((x1 >>> (6 &&& 31))).toNatClampNeg) &&& ((1 <<< ((x1).toInt64 &&& 63)) - 1))]) (rest := []) hC (k_J_bcl l (xw ad cI cJ) (xw_ok ad cI cJ) (ty3 cI cJ cZ) _ rfl) yy_J13_bitCount_95d88 tw_505 rfl rfl ⟨by decide, by decide⟩ hP hS rfl hl.1 rfl (Nat.le_of_ble_eq_true rfl) dX5_lesserInWordOf_22 (fun H locs hP hS => ?_)
  refine lv_goto (tgt := 29) hx hb dX5_lesserInWordOf_25 (by decide) ?_
  have h1 := Option.some.inj hf
  exact retI hx hb hr hlocks hP hS h1 rfl dX5_lesserInWordOf_29
theorem dX1_clear_0 : decode cX1_clear 0 = .ok (.aload_n 0, 1) := by decide +kernel
theorem dX1_clear_1 : decode cX1_clear 1 = .ok (.getfield 9, 3) := by decide +kernel
theorem dX1_clear_4 : decode cX1_clear 4 = .ok (.bipush 14, 2) := by decide +kernel
theorem dX1_clear_6 : decode cX1_clear 6 = .ok (.invokestatic 15, 3) := by decide +kernel
theorem dX1_clear_9 : decode cX1_clear 9 = .ok (.aload_n 0, 1) := by decide +kernel
theorem dX1_clear_10 : decode cX1_clear 10 = .ok (.iconst 0, 1) := by decide +kernel
theorem dX1_clear_11 : decode cX1_clear 11 = .ok (.putfield 21, 3) := by decide +kernel
theorem dX1_clear_14 : decode cX1_clear 14 = .ok (.aload_n 0, 1) := by decide +kernel
theorem dX1_clear_15 : decode cX1_clear 15 = .ok (.bipush 7, 2) := by decide +kernel
theorem dX1_clear_17 : decode cX1_clear 17 = .ok (.putfield 25, 3) := by decide +kernel
theorem dX1_clear_20 : decode cX1_clear 20 = .ok (.aload_n 0, 1) := by decide +kernel
theorem dX1_clear_21 : decode cX1_clear 21 = .ok (.sipush 9999, 3) := by decide +kernel
theorem dX1_clear_24 : decode cX1_clear 24 = .ok (.putfield 28, 3) := by decide +kernel
theorem dX1_clear_27 : decode cX1_clear 27 = .ok (.aload_n 0, 1) := by decide +kernel
theorem dX1_clear_28 : decode cX1_clear 28 = .ok (.iconst 0, 1) := by decide +kernel
theorem dX1_clear_29 : decode cX1_clear 29 = .ok (.putfield 31, 3) := by decide +kernel
theorem dX1_clear_32 : decode cX1_clear 32 = .ok (.aload_n 0, 1) := by decide +kernel
theorem dX1_clear_33 : decode cX1_clear 33 = .ok (.bipush 14, 2) := by decide +kernel
theorem dX1_clear_35 : decode cX1_clear 35 = .ok (.putfield 34, 3) := by decide +kernel
theorem dX1_clear_38 : decode cX1_clear 38 = .ok (.aload_n 0, 1) := by decide +kernel
theorem dX1_clear_39 : decode cX1_clear 39 = .ok (.sipush 9999, 3) := by decide +kernel
theorem dX1_clear_42 : decode cX1_clear 42 = .ok (.putfield 37, 3) := by decide +kernel
theorem dX1_clear_45 : decode cX1_clear 45 = .ok (.return_, 1) := by decide +kernel
def Lim_clear  (σ0 : St) : St := lt (fillI σ0 5 8 14) (fun σ1 => lt (si σ1 10 0) (fun σ2 => lt (si σ2 5 7) (fun σ3 => lt (si σ3 6 9999) (fun σ4 => lt (si σ4 7 0) (fun σ5 => lt (si σ5 8 14) (fun σ6 => lt (si σ6 9 9999) (fun σ7 => σ7)))))))
abbrev rm_Lim_clear : Room := { frames := 1, cells := 0, slots := 0, locals := 23 }
set_option maxHeartbeats 4000000 in
set_option maxRecDepth 100000 in
theorem k_Lim_clear (l : Launch) (ad : Nat → Nat) (cI cJ cZ : ClassId)  {σ0 : St} {τ : St} (hf : Lim_clear σ0 = τ) : CtV l yX1_clear (gws (.code yX1_clear cX1_clear 1 none)) (rm_Lim_clear) (ty3 cI cJ cZ) (xw ad cI cJ) [.ref (ad 2)] σ0 τ := by
  refine CtV.of (by decide) (xw_ok ad cI cJ) (Nat.le_of_ble_eq_true rfl) ?_
  generalize hav : ([.ref (ad 2)] : List Value) = av
  intro p e s m below meth c D A hC ls hl hP hS
  obtain ⟨hx, hb, hr, hlocks, hml, hown, hts, hK, hN, hD, hA⟩ := id hC
  rw [← hav] at hl
  have hl : lv_has ls 1 [(0, .ref (ad 2))] := hl
  unfold Lim_clear at hf
  obtain ⟨H, hH⟩ : ∃ z, z = s.heap := ⟨_, rfl⟩
  obtain ⟨locs, hlocs⟩ : ∃ z : List Loc, z = [] := ⟨_, rfl⟩
  rw [← hH] at hP
  have hS : va_S A s.heap H locs := by rw [hH, hlocs]; exact va_S.rf
  suffices hgoal : W p l e _ s m _ below meth c H locs 0 0 _ _ by rw [hH, hlocs] at hgoal; exact hgoal
  refine lv_aload_n hx hb dX1_clear_0 rfl (lv_at hl 0 rfl) ?_
  refine xg_2_0 hC hP tw_124 dX1_clear_1 ?_
  refine lv_bipush (v := 14) hx hb dX1_clear_4 (by decide) ?_
  obtain ⟨σ1, eσ1, hf⟩ := lt_e hf
  refine cSv (As := [.ref (ad 14), .int 14]) (rest := []) hC (k_fill_14 l ad cI cJ cZ σ0 14) yy_J7_fill_53178 tw_343 rfl rfl ⟨by decide, by decide⟩ hP hS rfl hl.1 rfl (Nat.le_of_ble_eq_true rfl) dX1_clear_6 (fun H locs hP hS => ?_)
  rw [← eσ1] at hP
  refine lv_aload_n hx hb dX1_clear_9 rfl (lv_at hl 0 rfl) ?_
  refine lv_iconst (v := 0) hx hb dX1_clear_10 (by decide) ?_
  refine xp_2_6 hC hP hS tw_136 dX1_clear_11 (fun H locs hP hS => ?_)
  obtain ⟨σ2, eσ2, hf⟩ := lt_e hf
  rw [← eσ2] at hP
  refine lv_aload_n hx hb dX1_clear_14 rfl (lv_at hl 0 rfl) ?_
  refine lv_bipush (v := 7) hx hb dX1_clear_15 (by decide) ?_
  refine xp_2_1 hC hP hS tw_126 dX1_clear_17 (fun H locs hP hS => ?_)
  obtain ⟨σ3, eσ3, hf⟩ := lt_e hf
  rw [← eσ3] at hP
  refine lv_aload_n hx hb dX1_clear_20 rfl (lv_at hl 0 rfl) ?_
  refine lv_sipush (v := 9999) hx hb dX1_clear_21 (by decide) ?_
  refine xp_2_2 hC hP hS tw_128 dX1_clear_24 (fun H locs hP hS => ?_)
  obtain ⟨σ4, eσ4, hf⟩ := lt_e hf
  rw [← eσ4] at hP
  refine lv_aload_n hx hb dX1_clear_27 rfl (lv_at hl 0 rfl) ?_
  refine lv_iconst (v := 0) hx hb dX1_clear_28 (by decide) ?_
  refine xp_2_3 hC hP hS tw_130 dX1_clear_29 (fun H locs hP hS => ?_)
  obtain ⟨σ5, eσ5, hf⟩ := lt_e hf
  rw [← eσ5] at hP
  refine lv_aload_n hx hb dX1_clear_32 rfl (lv_at hl 0 rfl) ?_
  refine lv_bipush (v := 14) hx hb dX1_clear_33 (by decide) ?_
  refine xp_2_4 hC hP hS tw_132 dX1_clear_35 (fun H locs hP hS => ?_)
  obtain ⟨σ6, eσ6, hf⟩ := lt_e hf
  rw [← eσ6] at hP
  refine lv_aload_n hx hb dX1_clear_38 rfl (lv_at hl 0 rfl) ?_
  refine lv_sipush (v := 9999) hx hb dX1_clear_39 (by decide) ?_
  refine xp_2_5 hC hP hS tw_134 dX1_clear_42 (fun H locs hP hS => ?_)
  obtain ⟨σ7, eσ7, hf⟩ := lt_e hf
  rw [← eσ7] at hP
  have h2 := hf
  exact retV hx hb hr hlocks hP hS h2 dX1_clear_45
theorem dX1_setDegree_0 : decode cX1_setDegree 0 = .ok (.aload_n 0, 1) := by decide +kernel
theorem dX1_setDegree_1 : decode cX1_setDegree 1 = .ok (.getfield 9, 3) := by decide +kernel
theorem dX1_setDegree_4 : decode cX1_setDegree 4 = .ok (.iload_n 1, 1) := by decide +kernel
theorem dX1_setDegree_5 : decode cX1_setDegree 5 = .ok (.iload_n 2, 1) := by decide +kernel
theorem dX1_setDegree_6 : decode cX1_setDegree 6 = .ok (.iastore, 1) := by decide +kernel
theorem dX1_setDegree_7 : decode cX1_setDegree 7 = .ok (.iload_n 2, 1) := by decide +kernel
theorem dX1_setDegree_8 : decode cX1_setDegree 8 = .ok (.bipush 7, 2) := by decide +kernel
theorem dX1_setDegree_10 : decode cX1_setDegree 10 = .ok (.if_icmp .ge 18, 3) := by decide +kernel
theorem dX1_setDegree_13 : decode cX1_setDegree 13 = .ok (.aload_n 0, 1) := by decide +kernel
theorem dX1_setDegree_14 : decode cX1_setDegree 14 = .ok (.dup, 1) := by decide +kernel
theorem dX1_setDegree_15 : decode cX1_setDegree 15 = .ok (.getfield 21, 3) := by decide +kernel
theorem dX1_setDegree_18 : decode cX1_setDegree 18 = .ok (.iconst 1, 1) := by decide +kernel
theorem dX1_setDegree_19 : decode cX1_setDegree 19 = .ok (.iload_n 1, 1) := by decide +kernel
theorem dX1_setDegree_20 : decode cX1_setDegree 20 = .ok (.ishl, 1) := by decide +kernel
theorem dX1_setDegree_21 : decode cX1_setDegree 21 = .ok (.ior, 1) := by decide +kernel
theorem dX1_setDegree_22 : decode cX1_setDegree 22 = .ok (.putfield 21, 3) := by decide +kernel
theorem dX1_setDegree_25 : decode cX1_setDegree 25 = .ok (.goto 17, 3) := by decide +kernel
theorem dX1_setDegree_28 : decode cX1_setDegree 28 = .ok (.aload_n 0, 1) := by decide +kernel
theorem dX1_setDegree_29 : decode cX1_setDegree 29 = .ok (.dup, 1) := by decide +kernel
theorem dX1_setDegree_30 : decode cX1_setDegree 30 = .ok (.getfield 21, 3) := by decide +kernel
theorem dX1_setDegree_33 : decode cX1_setDegree 33 = .ok (.iconst 1, 1) := by decide +kernel
theorem dX1_setDegree_34 : decode cX1_setDegree 34 = .ok (.iload_n 1, 1) := by decide +kernel
theorem dX1_setDegree_35 : decode cX1_setDegree 35 = .ok (.ishl, 1) := by decide +kernel
theorem dX1_setDegree_36 : decode cX1_setDegree 36 = .ok (.iconst (-1), 1) := by decide +kernel
theorem dX1_setDegree_37 : decode cX1_setDegree 37 = .ok (.ixor, 1) := by decide +kernel
theorem dX1_setDegree_38 : decode cX1_setDegree 38 = .ok (.iand, 1) := by decide +kernel
theorem dX1_setDegree_39 : decode cX1_setDegree 39 = .ok (.putfield 21, 3) := by decide +kernel
theorem dX1_setDegree_42 : decode cX1_setDegree 42 = .ok (.return_, 1) := by decide +kernel
def Lim_setDegree (N : Nat) (x1 : Int32) (x2 : Int32) (σ0 : St) : Option (St) := grd (inb x1 8) (lt (sa σ0 5 (x1).toNatClampNeg x2) (fun σ2 => if 7 ≤ x2 then lt (si σ2 10 ((σ2.1 10) &&& (((1 : Int32) <<< (x1 &&& 31)) ^^^ (-1)))) (fun σ4 => some σ4) else lt (si σ2 10 ((σ2.1 10) ||| ((1 : Int32) <<< (x1 &&& 31)))) (fun σ5 => some σ5)))
abbrev rm_Lim_setDegree : Room := { frames := 0, cells := 0, slots := 0, locals := 0 }
set_option maxHeartbeats 4000000 in
set_option maxRecDepth 100000 in
theorem k_Lim_setDegree (l : Launch) (ad : Nat → Nat) (cI cJ cZ : ClassId) {N : Nat} {x1 : Int32} {x2 : Int32} {σ0 : St} {τ : St} (hf : Lim_setDegree N x1 x2 σ0 = some τ) : CtV l yX1_setDegree (gws (.code yX1_setDegree cX1_setDegree 3 none)) (rm_Lim_setDegree) (ty3 cI cJ cZ) (xw ad cI cJ) [.ref (ad 2), .int x1, .int x2] σ0 τ := by
  refine CtV.of (by decide) (xw_ok ad cI cJ) (Nat.le_of_ble_eq_true rfl) ?_
  generalize hav : ([.ref (ad 2), .int x1, .int x2] : List Value) = av
  intro p e s m below meth c D A hC ls hl hP hS
  obtain ⟨hx, hb, hr, hlocks, hml, hown, hts, hK, hN, hD, hA⟩ := id hC
  rw [← hav] at hl
  have hl : lv_has ls 3 [(0, .ref (ad 2)), (1, .int x1), (2, .int x2)] := hl
  unfold Lim_setDegree at hf
  obtain ⟨H, hH⟩ : ∃ z, z = s.heap := ⟨_, rfl⟩
  obtain ⟨locs, hlocs⟩ : ∃ z : List Loc, z = [] := ⟨_, rfl⟩
  rw [← hH] at hP
  have hS : va_S A s.heap H locs := by rw [hH, hlocs]; exact va_S.rf
  suffices hgoal : W p l e _ s m _ below meth c H locs 0 0 _ _ by rw [hH, hlocs] at hgoal; exact hgoal
  refine lv_aload_n hx hb dX1_setDegree_0 rfl (lv_at hl 0 rfl) ?_
  refine xg_2_0 hC hP tw_124 dX1_setDegree_1 ?_
  refine lv_iload_n hx hb dX1_setDegree_4 rfl (lv_at hl 1 rfl) ?_
  refine lv_iload_n hx hb dX1_setDegree_5 rfl (lv_at hl 2 rfl) ?_
  obtain ⟨g1, hf⟩ := grd_some hf
  refine xs_14 hC hP hS g1 dX1_setDegree_6 (fun H locs hP hS => ?_)
  obtain ⟨σ2, eσ2, hf⟩ := lt_e hf
  rw [← eσ2] at hP
  refine lv_iload_n hx hb dX1_setDegree_7 rfl (lv_at hl 2 rfl) ?_
  refine lv_bipush (v := 7) hx hb dX1_setDegree_8 (by decide) ?_
  refine lv_icmp_ge (tgt := 28) hx hb dX1_setDegree_10 (by decide) (fun c3 => ?_) (fun c3 => ?_)
  · rw [if_pos c3] at hf
    refine lv_aload_n hx hb dX1_setDegree_28 rfl (lv_at hl 0 rfl) ?_
    refine lv_dup hx hb dX1_setDegree_29 rfl ?_
    refine xg_2_6 hC hP tw_136 dX1_setDegree_30 ?_
    refine lv_iconst (v := 1) hx hb dX1_setDegree_33 (by decide) ?_
    refine lv_iload_n hx hb dX1_setDegree_34 rfl (lv_at hl 1 rfl) ?_
    refine lv_ishl hx hb dX1_setDegree_35 ?_
    refine lv_iconst (v := (-1)) hx hb dX1_setDegree_36 (by decide) ?_
    refine lv_ixor hx hb dX1_setDegree_37 ?_
    refine lv_iand hx hb dX1_setDegree_38 ?_
    refine xp_2_6 hC hP hS tw_136 dX1_setDegree_39 (fun H locs hP hS => ?_)
    obtain ⟨σ4, eσ4, hf⟩ := lt_e hf
    rw [← eσ4] at hP
    have h2 := Option.some.inj hf
    exact retV hx hb hr hlocks hP hS h2 dX1_setDegree_42
  rw [if_neg c3] at hf
  refine lv_aload_n hx hb dX1_setDegree_13 rfl (lv_at hl 0 rfl) ?_
  refine lv_dup hx hb dX1_setDegree_14 rfl ?_
  refine xg_2_6 hC hP tw_136 dX1_setDegree_15 ?_
  refine lv_iconst (v := 1) hx hb dX1_setDegree_18 (by decide) ?_
  refine lv_iload_n hx hb dX1_setDegree_19 rfl (lv_at hl 1 rfl) ?_
  refine lv_ishl hx hb dX1_setDegree_20 ?_
  refine lv_ior hx hb dX1_setDegree_21 ?_
  refine xp_2_6 hC hP hS tw_136 dX1_setDegree_22 (fun H locs hP hS => ?_)
  obtain ⟨σ5, eσ5, hf⟩ := lt_e hf
  rw [← eσ5] at hP
  refine lv_goto (tgt := 42) hx hb dX1_setDegree_25 (by decide) ?_
  have h2 := Option.some.inj hf
  exact retV hx hb hr hlocks hP hS h2 dX1_setDegree_42
theorem dX1_hasCrowdedPost_0 : decode cX1_hasCrowdedPost 0 = .ok (.aload_n 0, 1) := by decide +kernel
theorem dX1_hasCrowdedPost_1 : decode cX1_hasCrowdedPost 1 = .ok (.getfield 21, 3) := by decide +kernel
theorem dX1_hasCrowdedPost_4 : decode cX1_hasCrowdedPost 4 = .ok (.istore_n 3, 1) := by decide +kernel
theorem dX1_hasCrowdedPost_5 : decode cX1_hasCrowdedPost 5 = .ok (.iload_n 3, 1) := by decide +kernel
theorem dX1_hasCrowdedPost_6 : decode cX1_hasCrowdedPost 6 = .ok (.ifCond .eq 42, 3) := by decide +kernel
theorem dX1_hasCrowdedPost_9 : decode cX1_hasCrowdedPost 9 = .ok (.iload_n 3, 1) := by decide +kernel
theorem dX1_hasCrowdedPost_10 : decode cX1_hasCrowdedPost 10 = .ok (.invokestatic 50, 3) := by decide +kernel
theorem dX1_hasCrowdedPost_13 : decode cX1_hasCrowdedPost 13 = .ok (.istore 4, 2) := by decide +kernel
theorem dX1_hasCrowdedPost_15 : decode cX1_hasCrowdedPost 15 = .ok (.iload_n 2, 1) := by decide +kernel
theorem dX1_hasCrowdedPost_16 : decode cX1_hasCrowdedPost 16 = .ok (.aload_n 1, 1) := by decide +kernel
theorem dX1_hasCrowdedPost_17 : decode cX1_hasCrowdedPost 17 = .ok (.getfield 53, 3) := by decide +kernel
theorem dX1_hasCrowdedPost_20 : decode cX1_hasCrowdedPost 20 = .ok (.iload 4, 2) := by decide +kernel
theorem dX1_hasCrowdedPost_22 : decode cX1_hasCrowdedPost 22 = .ok (.iaload, 1) := by decide +kernel
theorem dX1_hasCrowdedPost_23 : decode cX1_hasCrowdedPost 23 = .ok (.iand, 1) := by decide +kernel
theorem dX1_hasCrowdedPost_24 : decode cX1_hasCrowdedPost 24 = .ok (.invokestatic 56, 3) := by decide +kernel
theorem dX1_hasCrowdedPost_27 : decode cX1_hasCrowdedPost 27 = .ok (.aload_n 0, 1) := by decide +kernel
theorem dX1_hasCrowdedPost_28 : decode cX1_hasCrowdedPost 28 = .ok (.getfield 9, 3) := by decide +kernel
theorem dX1_hasCrowdedPost_31 : decode cX1_hasCrowdedPost 31 = .ok (.iload 4, 2) := by decide +kernel
theorem dX1_hasCrowdedPost_33 : decode cX1_hasCrowdedPost 33 = .ok (.iaload, 1) := by decide +kernel
theorem dX1_hasCrowdedPost_34 : decode cX1_hasCrowdedPost 34 = .ok (.if_icmp .le 5, 3) := by decide +kernel
theorem dX1_hasCrowdedPost_37 : decode cX1_hasCrowdedPost 37 = .ok (.iconst 1, 1) := by decide +kernel
theorem dX1_hasCrowdedPost_38 : decode cX1_hasCrowdedPost 38 = .ok (.ireturn, 1) := by decide +kernel
theorem dX1_hasCrowdedPost_39 : decode cX1_hasCrowdedPost 39 = .ok (.iload_n 3, 1) := by decide +kernel
theorem dX1_hasCrowdedPost_40 : decode cX1_hasCrowdedPost 40 = .ok (.iload_n 3, 1) := by decide +kernel
theorem dX1_hasCrowdedPost_41 : decode cX1_hasCrowdedPost 41 = .ok (.iconst 1, 1) := by decide +kernel
theorem dX1_hasCrowdedPost_42 : decode cX1_hasCrowdedPost 42 = .ok (.isub, 1) := by decide +kernel
theorem dX1_hasCrowdedPost_43 : decode cX1_hasCrowdedPost 43 = .ok (.iand, 1) := by decide +kernel
theorem dX1_hasCrowdedPost_44 : decode cX1_hasCrowdedPost 44 = .ok (.istore_n 3, 1) := by decide +kernel
theorem dX1_hasCrowdedPost_45 : decode cX1_hasCrowdedPost 45 = .ok (.goto (-40), 3) := by decide +kernel
theorem dX1_hasCrowdedPost_48 : decode cX1_hasCrowdedPost 48 = .ok (.iconst 0, 1) := by decide +kernel
theorem dX1_hasCrowdedPost_49 : decode cX1_hasCrowdedPost 49 = .ok (.ireturn, 1) := by decide +kernel
def Lim_hasCrowdedPost_5 (N : Nat) : Nat → Int32 → Int32 → St → Option (Int32)
  | 0, _, _, _ => none
  | n + 1, x2, x3, σ0 => if x3 = 0 then some 0 else grd (inb (LT_lowest x3) 8) (grd (inb (LT_lowest x3) 8) (if (J_bc (x2 &&& (σ0.2.1 1 ((LT_lowest x3)).toNatClampNeg))) ≤ (σ0.2.1 5 ((LT_lowest x3)).toNatClampNeg) then Lim_hasCrowdedPost_5 N n x2 (x3 &&& (x3 - 1)) σ0 else some 1))
theorem Lim_hasCrowdedPost_5_s (N : Nat) (n : Nat) (x2 : Int32) (x3 : Int32) (σ0 : St) : Lim_hasCrowdedPost_5 N (n + 1) x2 x3 σ0 = if x3 = 0 then some 0 else grd (inb (LT_lowest x3) 8) (grd (inb (LT_lowest x3) 8) (if (J_bc (x2 &&& (σ0.2.1 1 ((LT_lowest x3)).toNatClampNeg))) ≤ (σ0.2.1 5 ((LT_lowest x3)).toNatClampNeg) then Lim_hasCrowdedPost_5 N n x2 (x3 &&& (x3 - 1)) σ0 else some 1)) := rfl
def Lim_hasCrowdedPost (N : Nat) (x2 : Int32) (σ0 : St) : Option (Int32) := Lim_hasCrowdedPost_5 N N x2 (σ0.1 10) σ0
abbrev rm_Lim_hasCrowdedPost : Room := { frames := 2, cells := 0, slots := 0, locals := 40 }
set_option maxHeartbeats 4000000 in
set_option maxRecDepth 100000 in
theorem k_Lim_hasCrowdedPost (l : Launch) (ad : Nat → Nat) (cI cJ cZ : ClassId) {N : Nat} {x2 : Int32} {σ0 : St} {r : Int32} (hf : Lim_hasCrowdedPost N x2 σ0 = some r) : CtI l yX1_hasCrowdedPost (gws (.code yX1_hasCrowdedPost cX1_hasCrowdedPost 5 (some .boolean))) (rm_Lim_hasCrowdedPost) (ty3 cI cJ cZ) (xw ad cI cJ) [.ref (ad 2), .ref (ad 1), .int x2] σ0 r σ0 := by
  refine CtI.of (by decide) (xw_ok ad cI cJ) (Nat.le_of_ble_eq_true rfl) ?_
  generalize hav : ([.ref (ad 2), .ref (ad 1), .int x2] : List Value) = av
  intro p e s m below meth c D A hC ls hl hP hS
  obtain ⟨hx, hb, hr, hlocks, hml, hown, hts, hK, hN, hD, hA⟩ := id hC
  rw [← hav] at hl
  have hl : lv_has ls 5 [(0, .ref (ad 2)), (1, .ref (ad 1)), (2, .int x2)] := hl
  unfold Lim_hasCrowdedPost at hf
  have hw_5 : ∀ (n : Nat), ∀ (x2 : Int32) (x3 : Int32) (H : Heap) (locs : List Loc) (ls : Array Slot), va_P D vwCl ((xw ad cI cJ) σ0) H → va_S A s.heap H locs → lv_has ls 5 [(0, .ref (ad 2)), (1, .ref (ad 1)), (2, .int x2), (3, .int x3)] → Lim_hasCrowdedPost_5 N n x2 x3 σ0 = some r → W p l e (rm_Lim_hasCrowdedPost) s m av.toArray below meth c H locs 0 0 (QI below av.toArray s D A (xw ad cI cJ) r σ0) (F0 m 5 ls []) := by
    intro n
    induction n with
    | zero =>
      intro x2 x3 H locs ls hP hS hl hf
      cases hf
    | succ n ih =>
      intro x2 x3 H locs ls hP hS hl hf
      rw [Lim_hasCrowdedPost_5_s] at hf
      refine lv_iload_n hx hb dX1_hasCrowdedPost_5 rfl (lv_at hl 3 rfl) ?_
      refine lv_if_eq (tgt := 48) hx hb dX1_hasCrowdedPost_6 (by decide) (fun c1 => ?_) (fun c1 => ?_)
      · rw [if_pos c1] at hf
        refine lv_iconst (v := 0) hx hb dX1_hasCrowdedPost_48 (by decide) ?_
        have h1 := Option.some.inj hf
        exact retZ hx hb hr hlocks hP hS (Or.inl rfl) h1 rfl dX1_hasCrowdedPost_49
      rw [if_neg c1] at hf
      refine lv_iload_n hx hb dX1_hasCrowdedPost_9 rfl (lv_at hl 3 rfl) ?_
      refine cNi (As := [.int x3]) (rest := []) hC (k_LT_lowest l (xw ad cI cJ) (xw_ok ad cI cJ) (ty3 cI cJ cZ) _ rfl) yy_X7_lowest hN.1 rfl rfl ⟨by decide, by decide⟩ hP hS rfl hl.1 rfl (Nat.le_of_ble_eq_true rfl) dX1_hasCrowdedPost_10 (fun H locs hP hS => ?_)
      refine lv_istore (lv' := [(4, .int (LT_lowest x3)), (0, .ref (ad 2)), (1, .ref (ad 1)), (2, .int x2), (3, .int x3)]) hx hb dX1_hasCrowdedPost_13 hl (by decide) rfl (fun ls hl => ?_)
      refine lv_iload_n hx hb dX1_hasCrowdedPost_15 rfl (lv_at hl 3 rfl) ?_
      refine lv_aload_n hx hb dX1_hasCrowdedPost_16 rfl (lv_at hl 2 rfl) ?_
      refine xg_1_6 hC hP tw_84 dX1_hasCrowdedPost_17 ?_
      refine lv_iload hx hb dX1_hasCrowdedPost_20 (lv_at hl 0 rfl) ?_
      obtain ⟨g2, hf⟩ := grd_some hf
      refine xl_10 hC hP g2 dX1_hasCrowdedPost_22 ?_
      refine lv_iand hx hb dX1_hasCrowdedPost_23 ?_
      refine cSi (As := [.int (x2 &&& (σ0.2.1 1 ((LT_lowest x3)).toNatClampNeg))]) (rest := []) hC (k_J_bc l (xw ad cI cJ) (xw_ok ad cI cJ) (ty3 cI cJ cZ) _ rfl) yy_J6_bitCount_0f7a4 tw_544 rfl rfl ⟨by decide, by decide⟩ hP hS rfl hl.1 rfl (Nat.le_of_ble_eq_true rfl) dX1_hasCrowdedPost_24 (fun H locs hP hS => ?_)
      refine lv_aload_n hx hb dX1_hasCrowdedPost_27 rfl (lv_at hl 1 rfl) ?_
      refine xg_2_0 hC hP tw_124 dX1_hasCrowdedPost_28 ?_
      refine lv_iload hx hb dX1_hasCrowdedPost_31 (lv_at hl 0 rfl) ?_
      obtain ⟨g3, hf⟩ := grd_some hf
      refine xl_14 hC hP g3 dX1_hasCrowdedPost_33 ?_
      refine lv_icmp_le (tgt := 39) hx hb dX1_hasCrowdedPost_34 (by decide) (fun c4 => ?_) (fun c4 => ?_)
      · rw [if_pos c4] at hf
        refine lv_iload_n hx hb dX1_hasCrowdedPost_39 rfl (lv_at hl 4 rfl) ?_
        refine lv_iload_n hx hb dX1_hasCrowdedPost_40 rfl (lv_at hl 4 rfl) ?_
        refine lv_iconst (v := 1) hx hb dX1_hasCrowdedPost_41 (by decide) ?_
        refine lv_isub hx hb dX1_hasCrowdedPost_42 ?_
        refine lv_iand hx hb dX1_hasCrowdedPost_43 ?_
        refine lv_istore_n (lv' := [(3, .int (x3 &&& (x3 - 1))), (4, .int (LT_lowest x3)), (0, .ref (ad 2)), (1, .ref (ad 1)), (2, .int x2)]) hx hb dX1_hasCrowdedPost_44 rfl hl (by decide) rfl (fun ls hl => ?_)
        refine lv_goto (tgt := 5) hx hb dX1_hasCrowdedPost_45 (by decide) ?_
        exact ih x2 (x3 &&& (x3 - 1)) H locs ls hP hS (lv_sub hl [2, 3, 4, 0] rfl) hf
      rw [if_neg c4] at hf
      refine lv_iconst (v := 1) hx hb dX1_hasCrowdedPost_37 (by decide) ?_
      have h1 := Option.some.inj hf
      exact retZ hx hb hr hlocks hP hS (Or.inr rfl) h1 rfl dX1_hasCrowdedPost_38
  obtain ⟨H, hH⟩ : ∃ z, z = s.heap := ⟨_, rfl⟩
  obtain ⟨locs, hlocs⟩ : ∃ z : List Loc, z = [] := ⟨_, rfl⟩
  rw [← hH] at hP
  have hS : va_S A s.heap H locs := by rw [hH, hlocs]; exact va_S.rf
  suffices hgoal : W p l e _ s m _ below meth c H locs 0 0 _ _ by rw [hH, hlocs] at hgoal; exact hgoal
  refine lv_aload_n hx hb dX1_hasCrowdedPost_0 rfl (lv_at hl 0 rfl) ?_
  refine xg_2_6 hC hP tw_136 dX1_hasCrowdedPost_1 ?_
  refine lv_istore_n (lv' := [(3, .int (σ0.1 10)), (0, .ref (ad 2)), (1, .ref (ad 1)), (2, .int x2)]) hx hb dX1_hasCrowdedPost_4 rfl hl (by decide) rfl (fun ls hl => ?_)
  exact hw_5 N x2 (σ0.1 10) H locs ls hP hS (lv_sub hl [1, 2, 3, 0] rfl) hf
theorem dX1_brokenBy_0 : decode cX1_brokenBy 0 = .ok (.iconst 0, 1) := by decide +kernel
theorem dX1_brokenBy_1 : decode cX1_brokenBy 1 = .ok (.istore 6, 2) := by decide +kernel
theorem dX1_brokenBy_3 : decode cX1_brokenBy 3 = .ok (.aload_n 0, 1) := by decide +kernel
theorem dX1_brokenBy_4 : decode cX1_brokenBy 4 = .ok (.aload_n 1, 1) := by decide +kernel
theorem dX1_brokenBy_5 : decode cX1_brokenBy 5 = .ok (.iload_n 2, 1) := by decide +kernel
theorem dX1_brokenBy_6 : decode cX1_brokenBy 6 = .ok (.invokevirtual 40, 3) := by decide +kernel
theorem dX1_brokenBy_9 : decode cX1_brokenBy 9 = .ok (.ifCond .eq 9, 3) := by decide +kernel
theorem dX1_brokenBy_12 : decode cX1_brokenBy 12 = .ok (.iload 6, 2) := by decide +kernel
theorem dX1_brokenBy_14 : decode cX1_brokenBy 14 = .ok (.iconst 1, 1) := by decide +kernel
theorem dX1_brokenBy_15 : decode cX1_brokenBy 15 = .ok (.ior, 1) := by decide +kernel
theorem dX1_brokenBy_16 : decode cX1_brokenBy 16 = .ok (.istore 6, 2) := by decide +kernel
theorem dX1_brokenBy_18 : decode cX1_brokenBy 18 = .ok (.iload_n 3, 1) := by decide +kernel
theorem dX1_brokenBy_19 : decode cX1_brokenBy 19 = .ok (.aload_n 0, 1) := by decide +kernel
theorem dX1_brokenBy_20 : decode cX1_brokenBy 20 = .ok (.getfield 25, 3) := by decide +kernel
theorem dX1_brokenBy_23 : decode cX1_brokenBy 23 = .ok (.if_icmp .le 9, 3) := by decide +kernel
theorem dX1_brokenBy_26 : decode cX1_brokenBy 26 = .ok (.iload 6, 2) := by decide +kernel
theorem dX1_brokenBy_28 : decode cX1_brokenBy 28 = .ok (.iconst 2, 1) := by decide +kernel
theorem dX1_brokenBy_29 : decode cX1_brokenBy 29 = .ok (.ior, 1) := by decide +kernel
theorem dX1_brokenBy_30 : decode cX1_brokenBy 30 = .ok (.istore 6, 2) := by decide +kernel
theorem dX1_brokenBy_32 : decode cX1_brokenBy 32 = .ok (.iload 4, 2) := by decide +kernel
theorem dX1_brokenBy_34 : decode cX1_brokenBy 34 = .ok (.aload_n 0, 1) := by decide +kernel
theorem dX1_brokenBy_35 : decode cX1_brokenBy 35 = .ok (.getfield 28, 3) := by decide +kernel
theorem dX1_brokenBy_38 : decode cX1_brokenBy 38 = .ok (.if_icmp .le 9, 3) := by decide +kernel
theorem dX1_brokenBy_41 : decode cX1_brokenBy 41 = .ok (.iload 6, 2) := by decide +kernel
theorem dX1_brokenBy_43 : decode cX1_brokenBy 43 = .ok (.iconst 4, 1) := by decide +kernel
theorem dX1_brokenBy_44 : decode cX1_brokenBy 44 = .ok (.ior, 1) := by decide +kernel
theorem dX1_brokenBy_45 : decode cX1_brokenBy 45 = .ok (.istore 6, 2) := by decide +kernel
theorem dX1_brokenBy_47 : decode cX1_brokenBy 47 = .ok (.aload_n 1, 1) := by decide +kernel
theorem dX1_brokenBy_48 : decode cX1_brokenBy 48 = .ok (.iload_n 2, 1) := by decide +kernel
theorem dX1_brokenBy_49 : decode cX1_brokenBy 49 = .ok (.invokevirtual 44, 3) := by decide +kernel
theorem dX1_brokenBy_52 : decode cX1_brokenBy 52 = .ok (.istore 7, 2) := by decide +kernel
theorem dX1_brokenBy_54 : decode cX1_brokenBy 54 = .ok (.iload 7, 2) := by decide +kernel
theorem dX1_brokenBy_56 : decode cX1_brokenBy 56 = .ok (.aload_n 0, 1) := by decide +kernel
theorem dX1_brokenBy_57 : decode cX1_brokenBy 57 = .ok (.getfield 31, 3) := by decide +kernel
theorem dX1_brokenBy_60 : decode cX1_brokenBy 60 = .ok (.if_icmp .lt 12, 3) := by decide +kernel
theorem dX1_brokenBy_63 : decode cX1_brokenBy 63 = .ok (.iload 7, 2) := by decide +kernel
theorem dX1_brokenBy_65 : decode cX1_brokenBy 65 = .ok (.aload_n 0, 1) := by decide +kernel
theorem dX1_brokenBy_66 : decode cX1_brokenBy 66 = .ok (.getfield 34, 3) := by decide +kernel
theorem dX1_brokenBy_69 : decode cX1_brokenBy 69 = .ok (.if_icmp .le 10, 3) := by decide +kernel
theorem dX1_brokenBy_72 : decode cX1_brokenBy 72 = .ok (.iload 6, 2) := by decide +kernel
theorem dX1_brokenBy_74 : decode cX1_brokenBy 74 = .ok (.bipush 8, 2) := by decide +kernel
theorem dX1_brokenBy_76 : decode cX1_brokenBy 76 = .ok (.ior, 1) := by decide +kernel
theorem dX1_brokenBy_77 : decode cX1_brokenBy 77 = .ok (.istore 6, 2) := by decide +kernel
theorem dX1_brokenBy_79 : decode cX1_brokenBy 79 = .ok (.iload 5, 2) := by decide +kernel
theorem dX1_brokenBy_81 : decode cX1_brokenBy 81 = .ok (.aload_n 0, 1) := by decide +kernel
theorem dX1_brokenBy_82 : decode cX1_brokenBy 82 = .ok (.getfield 37, 3) := by decide +kernel
theorem dX1_brokenBy_85 : decode cX1_brokenBy 85 = .ok (.if_icmp .le 10, 3) := by decide +kernel
theorem dX1_brokenBy_88 : decode cX1_brokenBy 88 = .ok (.iload 6, 2) := by decide +kernel
theorem dX1_brokenBy_90 : decode cX1_brokenBy 90 = .ok (.bipush 16, 2) := by decide +kernel
theorem dX1_brokenBy_92 : decode cX1_brokenBy 92 = .ok (.ior, 1) := by decide +kernel
theorem dX1_brokenBy_93 : decode cX1_brokenBy 93 = .ok (.istore 6, 2) := by decide +kernel
theorem dX1_brokenBy_95 : decode cX1_brokenBy 95 = .ok (.iload 6, 2) := by decide +kernel
theorem dX1_brokenBy_97 : decode cX1_brokenBy 97 = .ok (.ireturn, 1) := by decide +kernel
def Lim_brokenBy_79 (N : Nat) (x5 : Int32) (x6 : Int32) (σ0 : St) : Option (Int32) := if x5 ≤ (σ0.1 9) then some x6 else some (x6 ||| 16)
def Lim_brokenBy_47 (N : Nat) (x2 : Int32) (x5 : Int32) (x6 : Int32) (σ0 : St) : Option (Int32) := if (Net_redsIn x2 σ0) < (σ0.1 7) then Lim_brokenBy_79 N x5 (x6 ||| 8) σ0 else if (Net_redsIn x2 σ0) ≤ (σ0.1 8) then Lim_brokenBy_79 N x5 x6 σ0 else Lim_brokenBy_79 N x5 (x6 ||| 8) σ0
def Lim_brokenBy_32 (N : Nat) (x2 : Int32) (x4 : Int32) (x5 : Int32) (x6 : Int32) (σ0 : St) : Option (Int32) := if x4 ≤ (σ0.1 6) then Lim_brokenBy_47 N x2 x5 x6 σ0 else Lim_brokenBy_47 N x2 x5 (x6 ||| 4) σ0
def Lim_brokenBy_18 (N : Nat) (x2 : Int32) (x3 : Int32) (x4 : Int32) (x5 : Int32) (x6 : Int32) (σ0 : St) : Option (Int32) := if x3 ≤ (σ0.1 5) then Lim_brokenBy_32 N x2 x4 x5 x6 σ0 else Lim_brokenBy_32 N x2 x4 x5 (x6 ||| 2) σ0
def Lim_brokenBy (N : Nat) (x2 : Int32) (x3 : Int32) (x4 : Int32) (x5 : Int32) (σ0 : St) : Option (Int32) := bnd (Lim_hasCrowdedPost N x2 σ0) (fun y6 => if y6 = 0 then Lim_brokenBy_18 N x2 x3 x4 x5 0 σ0 else Lim_brokenBy_18 N x2 x3 x4 x5 (0 ||| 1) σ0)
abbrev rm_Lim_brokenBy : Room := { frames := 3, cells := 0, slots := 0, locals := 64 }
set_option maxHeartbeats 4000000 in
set_option maxRecDepth 100000 in
theorem k_Lim_brokenBy (l : Launch) (ad : Nat → Nat) (cI cJ cZ : ClassId) {N : Nat} {x2 : Int32} {x3 : Int32} {x4 : Int32} {x5 : Int32} {σ0 : St} {r : Int32} (hf : Lim_brokenBy N x2 x3 x4 x5 σ0 = some r) : CtI l yX1_brokenBy (gws (.code yX1_brokenBy cX1_brokenBy 8 (some .int))) (rm_Lim_brokenBy) (ty3 cI cJ cZ) (xw ad cI cJ) [.ref (ad 2), .ref (ad 1), .int x2, .int x3, .int x4, .int x5] σ0 r σ0 := by
  refine CtI.of (by decide) (xw_ok ad cI cJ) (Nat.le_of_ble_eq_true rfl) ?_
  generalize hav : ([.ref (ad 2), .ref (ad 1), .int x2, .int x3, .int x4, .int x5] : List Value) = av
  intro p e s m below meth c D A hC ls hl hP hS
  obtain ⟨hx, hb, hr, hlocks, hml, hown, hts, hK, hN, hD, hA⟩ := id hC
  rw [← hav] at hl
  have hl : lv_has ls 8 [(0, .ref (ad 2)), (1, .ref (ad 1)), (2, .int x2), (3, .int x3), (4, .int x4), (5, .int x5)] := hl
  unfold Lim_brokenBy at hf
  have hw_79 : ∀ (x5 : Int32) (x6 : Int32) (H : Heap) (locs : List Loc) (ls : Array Slot), va_P D vwCl ((xw ad cI cJ) σ0) H → va_S A s.heap H locs → lv_has ls 8 [(0, .ref (ad 2)), (5, .int x5), (6, .int x6)] → Lim_brokenBy_79 N x5 x6 σ0 = some r → W p l e (rm_Lim_brokenBy) s m av.toArray below meth c H locs 0 0 (QI below av.toArray s D A (xw ad cI cJ) r σ0) (F0 m 79 ls []) := by
    intro x5 x6 H locs ls hP hS hl hf
    unfold Lim_brokenBy_79 at hf
    refine lv_iload hx hb dX1_brokenBy_79 (lv_at hl 1 rfl) ?_
    refine lv_aload_n hx hb dX1_brokenBy_81 rfl (lv_at hl 0 rfl) ?_
    refine xg_2_5 hC hP tw_134 dX1_brokenBy_82 ?_
    refine lv_icmp_le (tgt := 95) hx hb dX1_brokenBy_85 (by decide) (fun c1 => ?_) (fun c1 => ?_)
    · rw [if_pos c1] at hf
      refine lv_iload hx hb dX1_brokenBy_95 (lv_at hl 2 rfl) ?_
      have h1 := Option.some.inj hf
      exact retI hx hb hr hlocks hP hS h1 rfl dX1_brokenBy_97
    rw [if_neg c1] at hf
    refine lv_iload hx hb dX1_brokenBy_88 (lv_at hl 2 rfl) ?_
    refine lv_bipush (v := 16) hx hb dX1_brokenBy_90 (by decide) ?_
    refine lv_ior hx hb dX1_brokenBy_92 ?_
    refine lv_istore (lv' := [(6, .int (x6 ||| 16)), (0, .ref (ad 2)), (5, .int x5)]) hx hb dX1_brokenBy_93 hl (by decide) rfl (fun ls hl => ?_)
    refine lv_iload hx hb dX1_brokenBy_95 (lv_at hl 0 rfl) ?_
    have h1 := Option.some.inj hf
    exact retI hx hb hr hlocks hP hS h1 rfl dX1_brokenBy_97
  have hw_47 : ∀ (x2 : Int32) (x5 : Int32) (x6 : Int32) (H : Heap) (locs : List Loc) (ls : Array Slot), va_P D vwCl ((xw ad cI cJ) σ0) H → va_S A s.heap H locs → lv_has ls 8 [(0, .ref (ad 2)), (1, .ref (ad 1)), (2, .int x2), (5, .int x5), (6, .int x6)] → Lim_brokenBy_47 N x2 x5 x6 σ0 = some r → W p l e (rm_Lim_brokenBy) s m av.toArray below meth c H locs 0 0 (QI below av.toArray s D A (xw ad cI cJ) r σ0) (F0 m 47 ls []) := by
    intro x2 x5 x6 H locs ls hP hS hl hf
    unfold Lim_brokenBy_47 at hf
    refine lv_aload_n hx hb dX1_brokenBy_47 rfl (lv_at hl 1 rfl) ?_
    refine lv_iload_n hx hb dX1_brokenBy_48 rfl (lv_at hl 2 rfl) ?_
    refine cVi (As := [.int x2]) (rest := []) hC (k_Net_redsIn l ad cI cJ cZ rfl) yy_X2_redsIn tw_545 rfl rfl ⟨by decide, by decide⟩ hP hS (q0 := 1) (ci := 2) rfl rfl (xwa_1 ..) rfl hl.1 rfl (Nat.le_of_ble_eq_true rfl) dX1_brokenBy_49 (fun H locs hP hS => ?_)
    refine lv_istore (lv' := [(7, .int (Net_redsIn x2 σ0)), (0, .ref (ad 2)), (1, .ref (ad 1)), (2, .int x2), (5, .int x5), (6, .int x6)]) hx hb dX1_brokenBy_52 hl (by decide) rfl (fun ls hl => ?_)
    refine lv_iload hx hb dX1_brokenBy_54 (lv_at hl 0 rfl) ?_
    refine lv_aload_n hx hb dX1_brokenBy_56 rfl (lv_at hl 1 rfl) ?_
    refine xg_2_3 hC hP tw_130 dX1_brokenBy_57 ?_
    refine lv_icmp_lt (tgt := 72) hx hb dX1_brokenBy_60 (by decide) (fun c2 => ?_) (fun c2 => ?_)
    · rw [if_pos c2] at hf
      refine lv_iload hx hb dX1_brokenBy_72 (lv_at hl 5 rfl) ?_
      refine lv_bipush (v := 8) hx hb dX1_brokenBy_74 (by decide) ?_
      refine lv_ior hx hb dX1_brokenBy_76 ?_
      refine lv_istore (lv' := [(6, .int (x6 ||| 8)), (7, .int (Net_redsIn x2 σ0)), (0, .ref (ad 2)), (1, .ref (ad 1)), (2, .int x2), (5, .int x5)]) hx hb dX1_brokenBy_77 hl (by decide) rfl (fun ls hl => ?_)
      exact hw_79 x5 (x6 ||| 8) H locs ls hP hS (lv_sub hl [2, 5, 0] rfl) hf
    rw [if_neg c2] at hf
    refine lv_iload hx hb dX1_brokenBy_63 (lv_at hl 0 rfl) ?_
    refine lv_aload_n hx hb dX1_brokenBy_65 rfl (lv_at hl 1 rfl) ?_
    refine xg_2_4 hC hP tw_132 dX1_brokenBy_66 ?_
    refine lv_icmp_le (tgt := 79) hx hb dX1_brokenBy_69 (by decide) (fun c3 => ?_) (fun c3 => ?_)
    · rw [if_pos c3] at hf
      exact hw_79 x5 x6 H locs ls hP hS (lv_sub hl [1, 4, 5] rfl) hf
    rw [if_neg c3] at hf
    refine lv_iload hx hb dX1_brokenBy_72 (lv_at hl 5 rfl) ?_
    refine lv_bipush (v := 8) hx hb dX1_brokenBy_74 (by decide) ?_
    refine lv_ior hx hb dX1_brokenBy_76 ?_
    refine lv_istore (lv' := [(6, .int (x6 ||| 8)), (7, .int (Net_redsIn x2 σ0)), (0, .ref (ad 2)), (1, .ref (ad 1)), (2, .int x2), (5, .int x5)]) hx hb dX1_brokenBy_77 hl (by decide) rfl (fun ls hl => ?_)
    exact hw_79 x5 (x6 ||| 8) H locs ls hP hS (lv_sub hl [2, 5, 0] rfl) hf
  have hw_32 : ∀ (x2 : Int32) (x4 : Int32) (x5 : Int32) (x6 : Int32) (H : Heap) (locs : List Loc) (ls : Array Slot), va_P D vwCl ((xw ad cI cJ) σ0) H → va_S A s.heap H locs → lv_has ls 8 [(0, .ref (ad 2)), (1, .ref (ad 1)), (2, .int x2), (4, .int x4), (5, .int x5), (6, .int x6)] → Lim_brokenBy_32 N x2 x4 x5 x6 σ0 = some r → W p l e (rm_Lim_brokenBy) s m av.toArray below meth c H locs 0 0 (QI below av.toArray s D A (xw ad cI cJ) r σ0) (F0 m 32 ls []) := by
    intro x2 x4 x5 x6 H locs ls hP hS hl hf
    unfold Lim_brokenBy_32 at hf
    refine lv_iload hx hb dX1_brokenBy_32 (lv_at hl 3 rfl) ?_
    refine lv_aload_n hx hb dX1_brokenBy_34 rfl (lv_at hl 0 rfl) ?_
    refine xg_2_2 hC hP tw_128 dX1_brokenBy_35 ?_
    refine lv_icmp_le (tgt := 47) hx hb dX1_brokenBy_38 (by decide) (fun c4 => ?_) (fun c4 => ?_)
    · rw [if_pos c4] at hf
      exact hw_47 x2 x5 x6 H locs ls hP hS (lv_sub hl [0, 1, 2, 4, 5] rfl) hf
    rw [if_neg c4] at hf
    refine lv_iload hx hb dX1_brokenBy_41 (lv_at hl 5 rfl) ?_
    refine lv_iconst (v := 4) hx hb dX1_brokenBy_43 (by decide) ?_
    refine lv_ior hx hb dX1_brokenBy_44 ?_
    refine lv_istore (lv' := [(6, .int (x6 ||| 4)), (0, .ref (ad 2)), (1, .ref (ad 1)), (2, .int x2), (4, .int x4), (5, .int x5)]) hx hb dX1_brokenBy_45 hl (by decide) rfl (fun ls hl => ?_)
    exact hw_47 x2 x5 (x6 ||| 4) H locs ls hP hS (lv_sub hl [1, 2, 3, 5, 0] rfl) hf
  have hw_18 : ∀ (x2 : Int32) (x3 : Int32) (x4 : Int32) (x5 : Int32) (x6 : Int32) (H : Heap) (locs : List Loc) (ls : Array Slot), va_P D vwCl ((xw ad cI cJ) σ0) H → va_S A s.heap H locs → lv_has ls 8 [(0, .ref (ad 2)), (1, .ref (ad 1)), (2, .int x2), (3, .int x3), (4, .int x4), (5, .int x5), (6, .int x6)] → Lim_brokenBy_18 N x2 x3 x4 x5 x6 σ0 = some r → W p l e (rm_Lim_brokenBy) s m av.toArray below meth c H locs 0 0 (QI below av.toArray s D A (xw ad cI cJ) r σ0) (F0 m 18 ls []) := by
    intro x2 x3 x4 x5 x6 H locs ls hP hS hl hf
    unfold Lim_brokenBy_18 at hf
    refine lv_iload_n hx hb dX1_brokenBy_18 rfl (lv_at hl 3 rfl) ?_
    refine lv_aload_n hx hb dX1_brokenBy_19 rfl (lv_at hl 0 rfl) ?_
    refine xg_2_1 hC hP tw_126 dX1_brokenBy_20 ?_
    refine lv_icmp_le (tgt := 32) hx hb dX1_brokenBy_23 (by decide) (fun c5 => ?_) (fun c5 => ?_)
    · rw [if_pos c5] at hf
      exact hw_32 x2 x4 x5 x6 H locs ls hP hS (lv_sub hl [0, 1, 2, 4, 5, 6] rfl) hf
    rw [if_neg c5] at hf
    refine lv_iload hx hb dX1_brokenBy_26 (lv_at hl 6 rfl) ?_
    refine lv_iconst (v := 2) hx hb dX1_brokenBy_28 (by decide) ?_
    refine lv_ior hx hb dX1_brokenBy_29 ?_
    refine lv_istore (lv' := [(6, .int (x6 ||| 2)), (0, .ref (ad 2)), (1, .ref (ad 1)), (2, .int x2), (3, .int x3), (4, .int x4), (5, .int x5)]) hx hb dX1_brokenBy_30 hl (by decide) rfl (fun ls hl => ?_)
    exact hw_32 x2 x4 x5 (x6 ||| 2) H locs ls hP hS (lv_sub hl [1, 2, 3, 5, 6, 0] rfl) hf
  obtain ⟨H, hH⟩ : ∃ z, z = s.heap := ⟨_, rfl⟩
  obtain ⟨locs, hlocs⟩ : ∃ z : List Loc, z = [] := ⟨_, rfl⟩
  rw [← hH] at hP
  have hS : va_S A s.heap H locs := by rw [hH, hlocs]; exact va_S.rf
  suffices hgoal : W p l e _ s m _ below meth c H locs 0 0 _ _ by rw [hH, hlocs] at hgoal; exact hgoal
  refine lv_iconst (v := 0) hx hb dX1_brokenBy_0 (by decide) ?_
  refine lv_istore (lv' := [(6, .int 0), (0, .ref (ad 2)), (1, .ref (ad 1)), (2, .int x2), (3, .int x3), (4, .int x4), (5, .int x5)]) hx hb dX1_brokenBy_1 hl (by decide) rfl (fun ls hl => ?_)
  refine lv_aload_n hx hb dX1_brokenBy_3 rfl (lv_at hl 1 rfl) ?_
  refine lv_aload_n hx hb dX1_brokenBy_4 rfl (lv_at hl 2 rfl) ?_
  refine lv_iload_n hx hb dX1_brokenBy_5 rfl (lv_at hl 3 rfl) ?_
  obtain ⟨y6, hcy6, hf⟩ := bnd_some hf
  refine cVi (As := [.ref (ad 1), .int x2]) (rest := []) hC (k_Lim_hasCrowdedPost l ad cI cJ cZ hcy6) yy_X1_hasCrowdedPost tw_539 rfl rfl ⟨by decide, by decide⟩ hP hS (q0 := 2) (ci := 1) rfl rfl (xwa_2 ..) rfl hl.1 rfl (Nat.le_of_ble_eq_true rfl) dX1_brokenBy_6 (fun H locs hP hS => ?_)
  refine lv_if_eq (tgt := 18) hx hb dX1_brokenBy_9 (by decide) (fun c7 => ?_) (fun c7 => ?_)
  · rw [if_pos c7] at hf
    exact hw_18 x2 x3 x4 x5 0 H locs ls hP hS (lv_sub hl [1, 2, 3, 4, 5, 6, 0] rfl) hf
  rw [if_neg c7] at hf
  refine lv_iload hx hb dX1_brokenBy_12 (lv_at hl 0 rfl) ?_
  refine lv_iconst (v := 1) hx hb dX1_brokenBy_14 (by decide) ?_
  refine lv_ior hx hb dX1_brokenBy_15 ?_
  refine lv_istore (lv' := [(6, .int (0 ||| 1)), (0, .ref (ad 2)), (1, .ref (ad 1)), (2, .int x2), (3, .int x3), (4, .int x4), (5, .int x5)]) hx hb dX1_brokenBy_16 hl (by decide) rfl (fun ls hl => ?_)
  exact hw_18 x2 x3 x4 x5 (0 ||| 1) H locs ls hP hS (lv_sub hl [1, 2, 3, 4, 5, 6, 0] rfl) hf
