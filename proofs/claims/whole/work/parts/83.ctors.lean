/-! the constructors of the parts (laid by mk83.py) -/
theorem dX5_init_0 : decode cX5_init 0 = .ok (.aload_n 0, 1) := by decide +kernel
theorem dX5_init_1 : decode cX5_init 1 = .ok (.invokespecial 3, 3) := by decide +kernel
theorem dX5_init_4 : decode cX5_init 4 = .ok (.aload_n 0, 1) := by decide +kernel
theorem dX5_init_5 : decode cX5_init 5 = .ok (.sipush 256, 3) := by decide +kernel
theorem dX5_init_8 : decode cX5_init 8 = .ok (.newarray .long, 2) := by decide +kernel
theorem dX5_init_10 : decode cX5_init 10 = .ok (.putfield 9, 3) := by decide +kernel
theorem dX5_init_13 : decode cX5_init 13 = .ok (.return_, 1) := by decide +kernel
abbrev rn_X5 : Room := { frames := 1, cells := 1, slots := 256, locals := 12 }
set_option maxHeartbeats 4000000 in
set_option maxRecDepth 100000 in
theorem kn_X5 (l : Launch) (cI cJ cZ : ClassId) (h0 : Nat) : CtN l yX5_init (gws (.code yX5_init cX5_init 1 none)) rn_X5 (ty3 cI cJ cZ) [.ref h0] [(h0, .inr (5, [.null]))] (fun ad => [(h0, .inr (5, [.ref (ad 0)])), ((ad 0), .inl (cJ, 256, .inr (.inl (fun _ => 0))))]) 1 256 := by
  refine CtN.of (by decide) rfl (Nat.le_of_ble_eq_true rfl) ?_
  generalize hav : ([.ref h0] : List Value) = av
  intro p e s m below meth c D A hC ls hl hP hD hS
  obtain ⟨hx, hb, hr, hlocks, hml, hown, hts, hK, hN, hin, hA⟩ := id hC
  rw [← hav] at hl
  have hl : lv_has ls 1 [(0, .ref h0)] := hl
  obtain ⟨H, hH⟩ : ∃ z, z = s.heap := ⟨_, rfl⟩
  obtain ⟨locs, hlocs⟩ : ∃ z : List Loc, z = [] := ⟨_, rfl⟩
  rw [← hH] at hP
  have hS : va_S A s.heap H locs := by rw [hH, hlocs]; exact va_S.rf
  suffices hgoal : W p l e _ s m _ below meth c H locs 0 0 _ _ by rw [hH, hlocs] at hgoal; exact hgoal
  refine lv_aload_n hx hb dX5_init_0 rfl (lv_at hl 0 rfl) ?_
  refine n_obj hC tw_193 tw_57 hl.1 ⟨by decide, by decide⟩ dX5_init_1 ?_
  refine lv_aload_n hx hb dX5_init_4 rfl (lv_at hl 0 rfl) ?_
  refine lv_sipush (v := 256) hx hb dX5_init_5 (by decide) ?_
  refine nwJ hC hP hD hS (N := 256) (by decide) rfl (by decide) (by decide) (by decide) dX5_init_8 (fun q8 H hP hD hS => ?_)
  have hP : va_P D vwCl [(h0, .inr (5, [.null])), (q8, .inl (cJ, 256, .inr (.inl (fun _ => 0))))] H := hP
  have hD : va_D A [(h0, .inr (5, [.null])), (q8, .inl (cJ, 256, .inr (.inl (fun _ => 0))))] := hD
  refine W.widen (k := 1) (n := 256) (by omega) (by omega) ?_
  refine va_putF (D := D) (ci := 5) (v := .ref q8) (ty := .array .long) (C := RX5) (T := TX5) (N := 1) hx hb hts inX5 tyX5 tyX5_ok nmX5 hown hK hP hD hS 0 rfl rfl 0 (by decide) (hts _ tw_194) (fun _ h9 => h9) rfl hin rfl (by decide +kernel) rfl rfl (Nat.le_of_ble_eq_true rfl) dX5_init_10 (fun H locs hP hD hS => ?_)
  have hP : va_P D vwCl [(h0, .inr (5, [.ref q8])), (q8, .inl (cJ, 256, .inr (.inl (fun _ => 0))))] H := hP
  have hD : va_D A [(h0, .inr (5, [.ref q8])), (q8, .inl (cJ, 256, .inr (.inl (fun _ => 0))))] := hD
  exact W.vret hx hb hr (fun t ht hW => ⟨⟨(fun k => ([q8] : List Nat).getD k 0), rfl, trivial, by rw [ht]; exact hP, hD⟩, hS.F ht⟩) hS.2.2 dX5_init_13 hlocks
theorem dX2_init_0 : decode cX2_init 0 = .ok (.aload_n 0, 1) := by decide +kernel
theorem dX2_init_1 : decode cX2_init 1 = .ok (.invokespecial 3, 3) := by decide +kernel
theorem dX2_init_4 : decode cX2_init 4 = .ok (.aload_n 0, 1) := by decide +kernel
theorem dX2_init_5 : decode cX2_init 5 = .ok (.bipush 8, 2) := by decide +kernel
theorem dX2_init_7 : decode cX2_init 7 = .ok (.newarray .int, 2) := by decide +kernel
theorem dX2_init_9 : decode cX2_init 9 = .ok (.putfield 9, 3) := by decide +kernel
theorem dX2_init_12 : decode cX2_init 12 = .ok (.aload_n 0, 1) := by decide +kernel
theorem dX2_init_13 : decode cX2_init 13 = .ok (.bipush 8, 2) := by decide +kernel
theorem dX2_init_15 : decode cX2_init 15 = .ok (.newarray .int, 2) := by decide +kernel
theorem dX2_init_17 : decode cX2_init 17 = .ok (.putfield 15, 3) := by decide +kernel
theorem dX2_init_20 : decode cX2_init 20 = .ok (.aload_n 0, 1) := by decide +kernel
theorem dX2_init_21 : decode cX2_init 21 = .ok (.bipush 14, 2) := by decide +kernel
theorem dX2_init_23 : decode cX2_init 23 = .ok (.newarray .int, 2) := by decide +kernel
theorem dX2_init_25 : decode cX2_init 25 = .ok (.putfield 18, 3) := by decide +kernel
theorem dX2_init_28 : decode cX2_init 28 = .ok (.aload_n 0, 1) := by decide +kernel
theorem dX2_init_29 : decode cX2_init 29 = .ok (.bipush 14, 2) := by decide +kernel
theorem dX2_init_31 : decode cX2_init 31 = .ok (.newarray .int, 2) := by decide +kernel
theorem dX2_init_33 : decode cX2_init 33 = .ok (.putfield 21, 3) := by decide +kernel
theorem dX2_init_36 : decode cX2_init 36 = .ok (.aload_n 0, 1) := by decide +kernel
theorem dX2_init_37 : decode cX2_init 37 = .ok (.bipush 14, 2) := by decide +kernel
theorem dX2_init_39 : decode cX2_init 39 = .ok (.newarray .int, 2) := by decide +kernel
theorem dX2_init_41 : decode cX2_init 41 = .ok (.putfield 24, 3) := by decide +kernel
theorem dX2_init_44 : decode cX2_init 44 = .ok (.return_, 1) := by decide +kernel
abbrev rn_X2 : Room := { frames := 1, cells := 5, slots := 58, locals := 12 }
set_option maxHeartbeats 4000000 in
set_option maxRecDepth 100000 in
theorem kn_X2 (l : Launch) (cI cJ cZ : ClassId) (h0 : Nat) : CtN l yX2_init (gws (.code yX2_init cX2_init 1 none)) rn_X2 (ty3 cI cJ cZ) [.ref h0] [(h0, .inr (2, [.int 0, .int 0, .int 0, .int 0, .int 0, .null, .null, .null, .null, .null]))] (fun ad => [(h0, .inr (2, [.int 0, .int 0, .int 0, .int 0, .int 0, .ref (ad 0), .ref (ad 1), .ref (ad 2), .ref (ad 3), .ref (ad 4)])), ((ad 0), .inl (cI, 8, .inl (fun _ => 0))), ((ad 1), .inl (cI, 8, .inl (fun _ => 0))), ((ad 2), .inl (cI, 14, .inl (fun _ => 0))), ((ad 3), .inl (cI, 14, .inl (fun _ => 0))), ((ad 4), .inl (cI, 14, .inl (fun _ => 0)))]) 5 58 := by
  refine CtN.of (by decide) rfl (Nat.le_of_ble_eq_true rfl) ?_
  generalize hav : ([.ref h0] : List Value) = av
  intro p e s m below meth c D A hC ls hl hP hD hS
  obtain ⟨hx, hb, hr, hlocks, hml, hown, hts, hK, hN, hin, hA⟩ := id hC
  rw [← hav] at hl
  have hl : lv_has ls 1 [(0, .ref h0)] := hl
  obtain ⟨H, hH⟩ : ∃ z, z = s.heap := ⟨_, rfl⟩
  obtain ⟨locs, hlocs⟩ : ∃ z : List Loc, z = [] := ⟨_, rfl⟩
  rw [← hH] at hP
  have hS : va_S A s.heap H locs := by rw [hH, hlocs]; exact va_S.rf
  suffices hgoal : W p l e _ s m _ below meth c H locs 0 0 _ _ by rw [hH, hlocs] at hgoal; exact hgoal
  refine lv_aload_n hx hb dX2_init_0 rfl (lv_at hl 0 rfl) ?_
  refine n_obj hC tw_64 tw_57 hl.1 ⟨by decide, by decide⟩ dX2_init_1 ?_
  refine lv_aload_n hx hb dX2_init_4 rfl (lv_at hl 0 rfl) ?_
  refine lv_bipush (v := 8) hx hb dX2_init_5 (by decide) ?_
  refine nwI hC hP hD hS (N := 8) (by decide) rfl (by decide) (by decide) (by decide) dX2_init_7 (fun q7 H hP hD hS => ?_)
  have hP : va_P D vwCl [(h0, .inr (2, [.int 0, .int 0, .int 0, .int 0, .int 0, .null, .null, .null, .null, .null])), (q7, .inl (cI, 8, .inl (fun _ => 0)))] H := hP
  have hD : va_D A [(h0, .inr (2, [.int 0, .int 0, .int 0, .int 0, .int 0, .null, .null, .null, .null, .null])), (q7, .inl (cI, 8, .inl (fun _ => 0)))] := hD
  refine W.widen (k := 1) (n := 8) (by omega) (by omega) ?_
  refine va_putF (D := D) (ci := 2) (v := .ref q7) (ty := .array .int) (C := RX2) (T := TX2) (N := 10) hx hb hts inX2 tyX2 tyX2_ok nmX2 hown hK hP hD hS 0 rfl rfl 5 (by decide) (hts _ tw_79) (fun _ h9 => h9) rfl hin rfl (by decide +kernel) rfl rfl (Nat.le_of_ble_eq_true rfl) dX2_init_9 (fun H locs hP hD hS => ?_)
  have hP : va_P D vwCl [(h0, .inr (2, [.int 0, .int 0, .int 0, .int 0, .int 0, .ref q7, .null, .null, .null, .null])), (q7, .inl (cI, 8, .inl (fun _ => 0)))] H := hP
  have hD : va_D A [(h0, .inr (2, [.int 0, .int 0, .int 0, .int 0, .int 0, .ref q7, .null, .null, .null, .null])), (q7, .inl (cI, 8, .inl (fun _ => 0)))] := hD
  refine lv_aload_n hx hb dX2_init_12 rfl (lv_at hl 0 rfl) ?_
  refine lv_bipush (v := 8) hx hb dX2_init_13 (by decide) ?_
  refine nwI hC hP hD hS (N := 8) (by decide) rfl (by decide) (by decide) (by decide) dX2_init_15 (fun q15 H hP hD hS => ?_)
  have hP : va_P D vwCl [(h0, .inr (2, [.int 0, .int 0, .int 0, .int 0, .int 0, .ref q7, .null, .null, .null, .null])), (q7, .inl (cI, 8, .inl (fun _ => 0))), (q15, .inl (cI, 8, .inl (fun _ => 0)))] H := hP
  have hD : va_D A [(h0, .inr (2, [.int 0, .int 0, .int 0, .int 0, .int 0, .ref q7, .null, .null, .null, .null])), (q7, .inl (cI, 8, .inl (fun _ => 0))), (q15, .inl (cI, 8, .inl (fun _ => 0)))] := hD
  refine W.widen (k := 2) (n := 16) (by omega) (by omega) ?_
  refine va_putF (D := D) (ci := 2) (v := .ref q15) (ty := .array .int) (C := RX2) (T := TX2) (N := 10) hx hb hts inX2 tyX2 tyX2_ok nmX2 hown hK hP hD hS 0 rfl rfl 6 (by decide) (hts _ tw_82) (fun _ h9 => h9) rfl hin rfl (by decide +kernel) rfl rfl (Nat.le_of_ble_eq_true rfl) dX2_init_17 (fun H locs hP hD hS => ?_)
  have hP : va_P D vwCl [(h0, .inr (2, [.int 0, .int 0, .int 0, .int 0, .int 0, .ref q7, .ref q15, .null, .null, .null])), (q7, .inl (cI, 8, .inl (fun _ => 0))), (q15, .inl (cI, 8, .inl (fun _ => 0)))] H := hP
  have hD : va_D A [(h0, .inr (2, [.int 0, .int 0, .int 0, .int 0, .int 0, .ref q7, .ref q15, .null, .null, .null])), (q7, .inl (cI, 8, .inl (fun _ => 0))), (q15, .inl (cI, 8, .inl (fun _ => 0)))] := hD
  refine lv_aload_n hx hb dX2_init_20 rfl (lv_at hl 0 rfl) ?_
  refine lv_bipush (v := 14) hx hb dX2_init_21 (by decide) ?_
  refine nwI hC hP hD hS (N := 14) (by decide) rfl (by decide) (by decide) (by decide) dX2_init_23 (fun q23 H hP hD hS => ?_)
  have hP : va_P D vwCl [(h0, .inr (2, [.int 0, .int 0, .int 0, .int 0, .int 0, .ref q7, .ref q15, .null, .null, .null])), (q7, .inl (cI, 8, .inl (fun _ => 0))), (q15, .inl (cI, 8, .inl (fun _ => 0))), (q23, .inl (cI, 14, .inl (fun _ => 0)))] H := hP
  have hD : va_D A [(h0, .inr (2, [.int 0, .int 0, .int 0, .int 0, .int 0, .ref q7, .ref q15, .null, .null, .null])), (q7, .inl (cI, 8, .inl (fun _ => 0))), (q15, .inl (cI, 8, .inl (fun _ => 0))), (q23, .inl (cI, 14, .inl (fun _ => 0)))] := hD
  refine W.widen (k := 3) (n := 30) (by omega) (by omega) ?_
  refine va_putF (D := D) (ci := 2) (v := .ref q23) (ty := .array .int) (C := RX2) (T := TX2) (N := 10) hx hb hts inX2 tyX2 tyX2_ok nmX2 hown hK hP hD hS 0 rfl rfl 7 (by decide) (hts _ tw_85) (fun _ h9 => h9) rfl hin rfl (by decide +kernel) rfl rfl (Nat.le_of_ble_eq_true rfl) dX2_init_25 (fun H locs hP hD hS => ?_)
  have hP : va_P D vwCl [(h0, .inr (2, [.int 0, .int 0, .int 0, .int 0, .int 0, .ref q7, .ref q15, .ref q23, .null, .null])), (q7, .inl (cI, 8, .inl (fun _ => 0))), (q15, .inl (cI, 8, .inl (fun _ => 0))), (q23, .inl (cI, 14, .inl (fun _ => 0)))] H := hP
  have hD : va_D A [(h0, .inr (2, [.int 0, .int 0, .int 0, .int 0, .int 0, .ref q7, .ref q15, .ref q23, .null, .null])), (q7, .inl (cI, 8, .inl (fun _ => 0))), (q15, .inl (cI, 8, .inl (fun _ => 0))), (q23, .inl (cI, 14, .inl (fun _ => 0)))] := hD
  refine lv_aload_n hx hb dX2_init_28 rfl (lv_at hl 0 rfl) ?_
  refine lv_bipush (v := 14) hx hb dX2_init_29 (by decide) ?_
  refine nwI hC hP hD hS (N := 14) (by decide) rfl (by decide) (by decide) (by decide) dX2_init_31 (fun q31 H hP hD hS => ?_)
  have hP : va_P D vwCl [(h0, .inr (2, [.int 0, .int 0, .int 0, .int 0, .int 0, .ref q7, .ref q15, .ref q23, .null, .null])), (q7, .inl (cI, 8, .inl (fun _ => 0))), (q15, .inl (cI, 8, .inl (fun _ => 0))), (q23, .inl (cI, 14, .inl (fun _ => 0))), (q31, .inl (cI, 14, .inl (fun _ => 0)))] H := hP
  have hD : va_D A [(h0, .inr (2, [.int 0, .int 0, .int 0, .int 0, .int 0, .ref q7, .ref q15, .ref q23, .null, .null])), (q7, .inl (cI, 8, .inl (fun _ => 0))), (q15, .inl (cI, 8, .inl (fun _ => 0))), (q23, .inl (cI, 14, .inl (fun _ => 0))), (q31, .inl (cI, 14, .inl (fun _ => 0)))] := hD
  refine W.widen (k := 4) (n := 44) (by omega) (by omega) ?_
  refine va_putF (D := D) (ci := 2) (v := .ref q31) (ty := .array .int) (C := RX2) (T := TX2) (N := 10) hx hb hts inX2 tyX2 tyX2_ok nmX2 hown hK hP hD hS 0 rfl rfl 8 (by decide) (hts _ tw_89) (fun _ h9 => h9) rfl hin rfl (by decide +kernel) rfl rfl (Nat.le_of_ble_eq_true rfl) dX2_init_33 (fun H locs hP hD hS => ?_)
  have hP : va_P D vwCl [(h0, .inr (2, [.int 0, .int 0, .int 0, .int 0, .int 0, .ref q7, .ref q15, .ref q23, .ref q31, .null])), (q7, .inl (cI, 8, .inl (fun _ => 0))), (q15, .inl (cI, 8, .inl (fun _ => 0))), (q23, .inl (cI, 14, .inl (fun _ => 0))), (q31, .inl (cI, 14, .inl (fun _ => 0)))] H := hP
  have hD : va_D A [(h0, .inr (2, [.int 0, .int 0, .int 0, .int 0, .int 0, .ref q7, .ref q15, .ref q23, .ref q31, .null])), (q7, .inl (cI, 8, .inl (fun _ => 0))), (q15, .inl (cI, 8, .inl (fun _ => 0))), (q23, .inl (cI, 14, .inl (fun _ => 0))), (q31, .inl (cI, 14, .inl (fun _ => 0)))] := hD
  refine lv_aload_n hx hb dX2_init_36 rfl (lv_at hl 0 rfl) ?_
  refine lv_bipush (v := 14) hx hb dX2_init_37 (by decide) ?_
  refine nwI hC hP hD hS (N := 14) (by decide) rfl (by decide) (by decide) (by decide) dX2_init_39 (fun q39 H hP hD hS => ?_)
  have hP : va_P D vwCl [(h0, .inr (2, [.int 0, .int 0, .int 0, .int 0, .int 0, .ref q7, .ref q15, .ref q23, .ref q31, .null])), (q7, .inl (cI, 8, .inl (fun _ => 0))), (q15, .inl (cI, 8, .inl (fun _ => 0))), (q23, .inl (cI, 14, .inl (fun _ => 0))), (q31, .inl (cI, 14, .inl (fun _ => 0))), (q39, .inl (cI, 14, .inl (fun _ => 0)))] H := hP
  have hD : va_D A [(h0, .inr (2, [.int 0, .int 0, .int 0, .int 0, .int 0, .ref q7, .ref q15, .ref q23, .ref q31, .null])), (q7, .inl (cI, 8, .inl (fun _ => 0))), (q15, .inl (cI, 8, .inl (fun _ => 0))), (q23, .inl (cI, 14, .inl (fun _ => 0))), (q31, .inl (cI, 14, .inl (fun _ => 0))), (q39, .inl (cI, 14, .inl (fun _ => 0)))] := hD
  refine W.widen (k := 5) (n := 58) (by omega) (by omega) ?_
  refine va_putF (D := D) (ci := 2) (v := .ref q39) (ty := .array .int) (C := RX2) (T := TX2) (N := 10) hx hb hts inX2 tyX2 tyX2_ok nmX2 hown hK hP hD hS 0 rfl rfl 9 (by decide) (hts _ tw_93) (fun _ h9 => h9) rfl hin rfl (by decide +kernel) rfl rfl (Nat.le_of_ble_eq_true rfl) dX2_init_41 (fun H locs hP hD hS => ?_)
  have hP : va_P D vwCl [(h0, .inr (2, [.int 0, .int 0, .int 0, .int 0, .int 0, .ref q7, .ref q15, .ref q23, .ref q31, .ref q39])), (q7, .inl (cI, 8, .inl (fun _ => 0))), (q15, .inl (cI, 8, .inl (fun _ => 0))), (q23, .inl (cI, 14, .inl (fun _ => 0))), (q31, .inl (cI, 14, .inl (fun _ => 0))), (q39, .inl (cI, 14, .inl (fun _ => 0)))] H := hP
  have hD : va_D A [(h0, .inr (2, [.int 0, .int 0, .int 0, .int 0, .int 0, .ref q7, .ref q15, .ref q23, .ref q31, .ref q39])), (q7, .inl (cI, 8, .inl (fun _ => 0))), (q15, .inl (cI, 8, .inl (fun _ => 0))), (q23, .inl (cI, 14, .inl (fun _ => 0))), (q31, .inl (cI, 14, .inl (fun _ => 0))), (q39, .inl (cI, 14, .inl (fun _ => 0)))] := hD
  exact W.vret hx hb hr (fun t ht hW => ⟨⟨(fun k => ([q7, q15, q23, q31, q39] : List Nat).getD k 0), rfl, trivial, by rw [ht]; exact hP, hD⟩, hS.F ht⟩) hS.2.2 dX2_init_44 hlocks
theorem dX1_init_0 : decode cX1_init 0 = .ok (.aload_n 0, 1) := by decide +kernel
theorem dX1_init_1 : decode cX1_init 1 = .ok (.invokespecial 3, 3) := by decide +kernel
theorem dX1_init_4 : decode cX1_init 4 = .ok (.aload_n 0, 1) := by decide +kernel
theorem dX1_init_5 : decode cX1_init 5 = .ok (.bipush 8, 2) := by decide +kernel
theorem dX1_init_7 : decode cX1_init 7 = .ok (.newarray .int, 2) := by decide +kernel
theorem dX1_init_9 : decode cX1_init 9 = .ok (.putfield 9, 3) := by decide +kernel
theorem dX1_init_12 : decode cX1_init 12 = .ok (.return_, 1) := by decide +kernel
abbrev rn_X1 : Room := { frames := 1, cells := 1, slots := 8, locals := 12 }
set_option maxHeartbeats 4000000 in
set_option maxRecDepth 100000 in
theorem kn_X1 (l : Launch) (cI cJ cZ : ClassId) (h0 : Nat) : CtN l yX1_init (gws (.code yX1_init cX1_init 1 none)) rn_X1 (ty3 cI cJ cZ) [.ref h0] [(h0, .inr (1, [.null, .int 0, .int 0, .int 0, .int 0, .int 0, .int 0]))] (fun ad => [(h0, .inr (1, [.ref (ad 0), .int 0, .int 0, .int 0, .int 0, .int 0, .int 0])), ((ad 0), .inl (cI, 8, .inl (fun _ => 0)))]) 1 8 := by
  refine CtN.of (by decide) rfl (Nat.le_of_ble_eq_true rfl) ?_
  generalize hav : ([.ref h0] : List Value) = av
  intro p e s m below meth c D A hC ls hl hP hD hS
  obtain ⟨hx, hb, hr, hlocks, hml, hown, hts, hK, hN, hin, hA⟩ := id hC
  rw [← hav] at hl
  have hl : lv_has ls 1 [(0, .ref h0)] := hl
  obtain ⟨H, hH⟩ : ∃ z, z = s.heap := ⟨_, rfl⟩
  obtain ⟨locs, hlocs⟩ : ∃ z : List Loc, z = [] := ⟨_, rfl⟩
  rw [← hH] at hP
  have hS : va_S A s.heap H locs := by rw [hH, hlocs]; exact va_S.rf
  suffices hgoal : W p l e _ s m _ below meth c H locs 0 0 _ _ by rw [hH, hlocs] at hgoal; exact hgoal
  refine lv_aload_n hx hb dX1_init_0 rfl (lv_at hl 0 rfl) ?_
  refine n_obj hC tw_123 tw_57 hl.1 ⟨by decide, by decide⟩ dX1_init_1 ?_
  refine lv_aload_n hx hb dX1_init_4 rfl (lv_at hl 0 rfl) ?_
  refine lv_bipush (v := 8) hx hb dX1_init_5 (by decide) ?_
  refine nwI hC hP hD hS (N := 8) (by decide) rfl (by decide) (by decide) (by decide) dX1_init_7 (fun q7 H hP hD hS => ?_)
  have hP : va_P D vwCl [(h0, .inr (1, [.null, .int 0, .int 0, .int 0, .int 0, .int 0, .int 0])), (q7, .inl (cI, 8, .inl (fun _ => 0)))] H := hP
  have hD : va_D A [(h0, .inr (1, [.null, .int 0, .int 0, .int 0, .int 0, .int 0, .int 0])), (q7, .inl (cI, 8, .inl (fun _ => 0)))] := hD
  refine W.widen (k := 1) (n := 8) (by omega) (by omega) ?_
  refine va_putF (D := D) (ci := 1) (v := .ref q7) (ty := .array .int) (C := RX1) (T := TX1) (N := 7) hx hb hts inX1 tyX1 tyX1_ok nmX1 hown hK hP hD hS 0 rfl rfl 0 (by decide) (hts _ tw_124) (fun _ h9 => h9) rfl hin rfl (by decide +kernel) rfl rfl (Nat.le_of_ble_eq_true rfl) dX1_init_9 (fun H locs hP hD hS => ?_)
  have hP : va_P D vwCl [(h0, .inr (1, [.ref q7, .int 0, .int 0, .int 0, .int 0, .int 0, .int 0])), (q7, .inl (cI, 8, .inl (fun _ => 0)))] H := hP
  have hD : va_D A [(h0, .inr (1, [.ref q7, .int 0, .int 0, .int 0, .int 0, .int 0, .int 0])), (q7, .inl (cI, 8, .inl (fun _ => 0)))] := hD
  exact W.vret hx hb hr (fun t ht hW => ⟨⟨(fun k => ([q7] : List Nat).getD k 0), rfl, trivial, by rw [ht]; exact hP, hD⟩, hS.F ht⟩) hS.2.2 dX1_init_12 hlocks
theorem dX4_init_0 : decode cX4_init 0 = .ok (.aload_n 0, 1) := by decide +kernel
theorem dX4_init_1 : decode cX4_init 1 = .ok (.invokespecial 3, 3) := by decide +kernel
theorem dX4_init_4 : decode cX4_init 4 = .ok (.aload_n 0, 1) := by decide +kernel
theorem dX4_init_5 : decode cX4_init 5 = .ok (.aload_n 1, 1) := by decide +kernel
theorem dX4_init_6 : decode cX4_init 6 = .ok (.putfield 9, 3) := by decide +kernel
theorem dX4_init_9 : decode cX4_init 9 = .ok (.return_, 1) := by decide +kernel
abbrev rn_X4 : Room := { frames := 1, cells := 0, slots := 0, locals := 12 }
set_option maxHeartbeats 4000000 in
set_option maxRecDepth 100000 in
theorem kn_X4 (l : Launch) (cI cJ cZ : ClassId) (h0 : Nat) (a1 : Nat) : CtN l yX4_init (gws (.code yX4_init cX4_init 2 none)) rn_X4 (ty3 cI cJ cZ) [.ref h0, .ref a1] [(h0, .inr (4, [.int 0, .int 0, .int 0, .int 0, .null]))] (fun ad => [(h0, .inr (4, [.int 0, .int 0, .int 0, .int 0, .ref a1]))]) 0 0 := by
  refine CtN.of (by decide) rfl (Nat.le_of_ble_eq_true rfl) ?_
  generalize hav : ([.ref h0, .ref a1] : List Value) = av
  intro p e s m below meth c D A hC ls hl hP hD hS
  obtain ⟨hx, hb, hr, hlocks, hml, hown, hts, hK, hN, hin, hA⟩ := id hC
  rw [← hav] at hl
  have hl : lv_has ls 2 [(0, .ref h0), (1, .ref a1)] := hl
  obtain ⟨H, hH⟩ : ∃ z, z = s.heap := ⟨_, rfl⟩
  obtain ⟨locs, hlocs⟩ : ∃ z : List Loc, z = [] := ⟨_, rfl⟩
  rw [← hH] at hP
  have hS : va_S A s.heap H locs := by rw [hH, hlocs]; exact va_S.rf
  suffices hgoal : W p l e _ s m _ below meth c H locs 0 0 _ _ by rw [hH, hlocs] at hgoal; exact hgoal
  refine lv_aload_n hx hb dX4_init_0 rfl (lv_at hl 0 rfl) ?_
  refine n_obj hC tw_157 tw_57 hl.1 ⟨by decide, by decide⟩ dX4_init_1 ?_
  refine lv_aload_n hx hb dX4_init_4 rfl (lv_at hl 0 rfl) ?_
  refine lv_aload_n hx hb dX4_init_5 rfl (lv_at hl 1 rfl) ?_
  refine va_putF (D := D) (ci := 4) (v := .ref a1) (ty := .object "LimitTrees$Net") (C := RX4) (T := TX4) (N := 5) hx hb hts inX4 tyX4 tyX4_ok nmX4 hown hK hP hD hS 0 rfl rfl 4 (by decide) (hts _ tw_170) (fun _ h9 => h9) rfl hin rfl (by decide +kernel) rfl rfl (Nat.le_of_ble_eq_true rfl) dX4_init_6 (fun H locs hP hD hS => ?_)
  have hP : va_P D vwCl [(h0, .inr (4, [.int 0, .int 0, .int 0, .int 0, .ref a1]))] H := hP
  have hD : va_D A [(h0, .inr (4, [.int 0, .int 0, .int 0, .int 0, .ref a1]))] := hD
  exact W.vret hx hb hr (fun t ht hW => ⟨⟨(fun k => ([] : List Nat).getD k 0), rfl, trivial, by rw [ht]; exact hP, hD⟩, hS.F ht⟩) hS.2.2 dX4_init_9 hlocks
theorem dX6_init_0 : decode cX6_init 0 = .ok (.aload_n 0, 1) := by decide +kernel
theorem dX6_init_1 : decode cX6_init 1 = .ok (.invokespecial 3, 3) := by decide +kernel
theorem dX6_init_4 : decode cX6_init 4 = .ok (.aload_n 0, 1) := by decide +kernel
theorem dX6_init_5 : decode cX6_init 5 = .ok (.sipush 1280, 3) := by decide +kernel
theorem dX6_init_8 : decode cX6_init 8 = .ok (.newarray .int, 2) := by decide +kernel
theorem dX6_init_10 : decode cX6_init 10 = .ok (.putfield 9, 3) := by decide +kernel
theorem dX6_init_13 : decode cX6_init 13 = .ok (.aload_n 0, 1) := by decide +kernel
theorem dX6_init_14 : decode cX6_init 14 = .ok (.sipush 1280, 3) := by decide +kernel
theorem dX6_init_17 : decode cX6_init 17 = .ok (.newarray .int, 2) := by decide +kernel
theorem dX6_init_19 : decode cX6_init 19 = .ok (.putfield 15, 3) := by decide +kernel
theorem dX6_init_22 : decode cX6_init 22 = .ok (.aload_n 0, 1) := by decide +kernel
theorem dX6_init_23 : decode cX6_init 23 = .ok (.sipush 1280, 3) := by decide +kernel
theorem dX6_init_26 : decode cX6_init 26 = .ok (.newarray .int, 2) := by decide +kernel
theorem dX6_init_28 : decode cX6_init 28 = .ok (.putfield 18, 3) := by decide +kernel
theorem dX6_init_31 : decode cX6_init 31 = .ok (.aload_n 0, 1) := by decide +kernel
theorem dX6_init_32 : decode cX6_init 32 = .ok (.sipush 1280, 3) := by decide +kernel
theorem dX6_init_35 : decode cX6_init 35 = .ok (.newarray .int, 2) := by decide +kernel
theorem dX6_init_37 : decode cX6_init 37 = .ok (.putfield 21, 3) := by decide +kernel
theorem dX6_init_40 : decode cX6_init 40 = .ok (.aload_n 0, 1) := by decide +kernel
theorem dX6_init_41 : decode cX6_init 41 = .ok (.sipush 1280, 3) := by decide +kernel
theorem dX6_init_44 : decode cX6_init 44 = .ok (.newarray .int, 2) := by decide +kernel
theorem dX6_init_46 : decode cX6_init 46 = .ok (.putfield 24, 3) := by decide +kernel
theorem dX6_init_49 : decode cX6_init 49 = .ok (.aload_n 0, 1) := by decide +kernel
theorem dX6_init_50 : decode cX6_init 50 = .ok (.new 27, 3) := by decide +kernel
theorem dX6_init_53 : decode cX6_init 53 = .ok (.dup, 1) := by decide +kernel
theorem dX6_init_54 : decode cX6_init 54 = .ok (.invokespecial 29, 3) := by decide +kernel
theorem dX6_init_57 : decode cX6_init 57 = .ok (.putfield 30, 3) := by decide +kernel
theorem dX6_init_60 : decode cX6_init 60 = .ok (.aload_n 0, 1) := by decide +kernel
theorem dX6_init_61 : decode cX6_init 61 = .ok (.sipush 256, 3) := by decide +kernel
theorem dX6_init_64 : decode cX6_init 64 = .ok (.newarray .int, 2) := by decide +kernel
theorem dX6_init_66 : decode cX6_init 66 = .ok (.putfield 34, 3) := by decide +kernel
theorem dX6_init_69 : decode cX6_init 69 = .ok (.aload_n 0, 1) := by decide +kernel
theorem dX6_init_70 : decode cX6_init 70 = .ok (.bipush 64, 2) := by decide +kernel
theorem dX6_init_72 : decode cX6_init 72 = .ok (.newarray .int, 2) := by decide +kernel
theorem dX6_init_74 : decode cX6_init 74 = .ok (.putfield 37, 3) := by decide +kernel
theorem dX6_init_77 : decode cX6_init 77 = .ok (.aload_n 0, 1) := by decide +kernel
theorem dX6_init_78 : decode cX6_init 78 = .ok (.aload_n 1, 1) := by decide +kernel
theorem dX6_init_79 : decode cX6_init 79 = .ok (.putfield 40, 3) := by decide +kernel
theorem dX6_init_82 : decode cX6_init 82 = .ok (.return_, 1) := by decide +kernel
abbrev rn_X6 : Room := { frames := 2, cells := 9, slots := 6977, locals := 40 }
set_option maxHeartbeats 4000000 in
set_option maxRecDepth 100000 in
theorem kn_X6 (l : Launch) (cI cJ cZ : ClassId) (h0 : Nat) (a1 : Nat) : CtN l yX6_init (gws (.code yX6_init cX6_init 2 none)) rn_X6 (ty3 cI cJ cZ) [.ref h0, .ref a1] [(h0, .inr (6, [.null, .null, .null, .null, .null, .int 0, .null, .null, .null, .null, .int 0, .int 0]))] (fun ad => [(h0, .inr (6, [.ref (ad 0), .ref (ad 1), .ref (ad 2), .ref (ad 3), .ref (ad 4), .int 0, .ref a1, .ref (ad 5), .ref (ad 7), .ref (ad 8), .int 0, .int 0])), ((ad 0), .inl (cI, 1280, .inl (fun _ => 0))), ((ad 1), .inl (cI, 1280, .inl (fun _ => 0))), ((ad 2), .inl (cI, 1280, .inl (fun _ => 0))), ((ad 3), .inl (cI, 1280, .inl (fun _ => 0))), ((ad 4), .inl (cI, 1280, .inl (fun _ => 0))), ((ad 5), .inr (5, [.ref (ad 6)])), ((ad 6), .inl (cJ, 256, .inr (.inl (fun _ => 0)))), ((ad 7), .inl (cI, 256, .inl (fun _ => 0))), ((ad 8), .inl (cI, 64, .inl (fun _ => 0)))]) 9 6977 := by
  refine CtN.of (by decide) rfl (Nat.le_of_ble_eq_true rfl) ?_
  generalize hav : ([.ref h0, .ref a1] : List Value) = av
  intro p e s m below meth c D A hC ls hl hP hD hS
  obtain ⟨hx, hb, hr, hlocks, hml, hown, hts, hK, hN, hin, hA⟩ := id hC
  rw [← hav] at hl
  have hl : lv_has ls 2 [(0, .ref h0), (1, .ref a1)] := hl
  obtain ⟨H, hH⟩ : ∃ z, z = s.heap := ⟨_, rfl⟩
  obtain ⟨locs, hlocs⟩ : ∃ z : List Loc, z = [] := ⟨_, rfl⟩
  rw [← hH] at hP
  have hS : va_S A s.heap H locs := by rw [hH, hlocs]; exact va_S.rf
  suffices hgoal : W p l e _ s m _ below meth c H locs 0 0 _ _ by rw [hH, hlocs] at hgoal; exact hgoal
  refine lv_aload_n hx hb dX6_init_0 rfl (lv_at hl 0 rfl) ?_
  refine n_obj hC tw_187 tw_57 hl.1 ⟨by decide, by decide⟩ dX6_init_1 ?_
  refine lv_aload_n hx hb dX6_init_4 rfl (lv_at hl 0 rfl) ?_
  refine lv_sipush (v := 1280) hx hb dX6_init_5 (by decide) ?_
  refine nwI hC hP hD hS (N := 1280) (by decide) rfl (by decide) (by decide) (by decide) dX6_init_8 (fun q8 H hP hD hS => ?_)
  have hP : va_P D vwCl [(h0, .inr (6, [.null, .null, .null, .null, .null, .int 0, .null, .null, .null, .null, .int 0, .int 0])), (q8, .inl (cI, 1280, .inl (fun _ => 0)))] H := hP
  have hD : va_D A [(h0, .inr (6, [.null, .null, .null, .null, .null, .int 0, .null, .null, .null, .null, .int 0, .int 0])), (q8, .inl (cI, 1280, .inl (fun _ => 0)))] := hD
  refine W.widen (k := 1) (n := 1280) (by omega) (by omega) ?_
  refine va_putF (D := D) (ci := 6) (v := .ref q8) (ty := .array .int) (C := RX6) (T := TX6) (N := 12) hx hb hts inX6 tyX6 tyX6_ok nmX6 hown hK hP hD hS 0 rfl rfl 0 (by decide) (hts _ tw_199) (fun _ h9 => h9) rfl hin rfl (by decide +kernel) rfl rfl (Nat.le_of_ble_eq_true rfl) dX6_init_10 (fun H locs hP hD hS => ?_)
  have hP : va_P D vwCl [(h0, .inr (6, [.ref q8, .null, .null, .null, .null, .int 0, .null, .null, .null, .null, .int 0, .int 0])), (q8, .inl (cI, 1280, .inl (fun _ => 0)))] H := hP
  have hD : va_D A [(h0, .inr (6, [.ref q8, .null, .null, .null, .null, .int 0, .null, .null, .null, .null, .int 0, .int 0])), (q8, .inl (cI, 1280, .inl (fun _ => 0)))] := hD
  refine lv_aload_n hx hb dX6_init_13 rfl (lv_at hl 0 rfl) ?_
  refine lv_sipush (v := 1280) hx hb dX6_init_14 (by decide) ?_
  refine nwI hC hP hD hS (N := 1280) (by decide) rfl (by decide) (by decide) (by decide) dX6_init_17 (fun q17 H hP hD hS => ?_)
  have hP : va_P D vwCl [(h0, .inr (6, [.ref q8, .null, .null, .null, .null, .int 0, .null, .null, .null, .null, .int 0, .int 0])), (q8, .inl (cI, 1280, .inl (fun _ => 0))), (q17, .inl (cI, 1280, .inl (fun _ => 0)))] H := hP
  have hD : va_D A [(h0, .inr (6, [.ref q8, .null, .null, .null, .null, .int 0, .null, .null, .null, .null, .int 0, .int 0])), (q8, .inl (cI, 1280, .inl (fun _ => 0))), (q17, .inl (cI, 1280, .inl (fun _ => 0)))] := hD
  refine W.widen (k := 2) (n := 2560) (by omega) (by omega) ?_
  refine va_putF (D := D) (ci := 6) (v := .ref q17) (ty := .array .int) (C := RX6) (T := TX6) (N := 12) hx hb hts inX6 tyX6 tyX6_ok nmX6 hown hK hP hD hS 0 rfl rfl 1 (by decide) (hts _ tw_203) (fun _ h9 => h9) rfl hin rfl (by decide +kernel) rfl rfl (Nat.le_of_ble_eq_true rfl) dX6_init_19 (fun H locs hP hD hS => ?_)
  have hP : va_P D vwCl [(h0, .inr (6, [.ref q8, .ref q17, .null, .null, .null, .int 0, .null, .null, .null, .null, .int 0, .int 0])), (q8, .inl (cI, 1280, .inl (fun _ => 0))), (q17, .inl (cI, 1280, .inl (fun _ => 0)))] H := hP
  have hD : va_D A [(h0, .inr (6, [.ref q8, .ref q17, .null, .null, .null, .int 0, .null, .null, .null, .null, .int 0, .int 0])), (q8, .inl (cI, 1280, .inl (fun _ => 0))), (q17, .inl (cI, 1280, .inl (fun _ => 0)))] := hD
  refine lv_aload_n hx hb dX6_init_22 rfl (lv_at hl 0 rfl) ?_
  refine lv_sipush (v := 1280) hx hb dX6_init_23 (by decide) ?_
  refine nwI hC hP hD hS (N := 1280) (by decide) rfl (by decide) (by decide) (by decide) dX6_init_26 (fun q26 H hP hD hS => ?_)
  have hP : va_P D vwCl [(h0, .inr (6, [.ref q8, .ref q17, .null, .null, .null, .int 0, .null, .null, .null, .null, .int 0, .int 0])), (q8, .inl (cI, 1280, .inl (fun _ => 0))), (q17, .inl (cI, 1280, .inl (fun _ => 0))), (q26, .inl (cI, 1280, .inl (fun _ => 0)))] H := hP
  have hD : va_D A [(h0, .inr (6, [.ref q8, .ref q17, .null, .null, .null, .int 0, .null, .null, .null, .null, .int 0, .int 0])), (q8, .inl (cI, 1280, .inl (fun _ => 0))), (q17, .inl (cI, 1280, .inl (fun _ => 0))), (q26, .inl (cI, 1280, .inl (fun _ => 0)))] := hD
  refine W.widen (k := 3) (n := 3840) (by omega) (by omega) ?_
  refine va_putF (D := D) (ci := 6) (v := .ref q26) (ty := .array .int) (C := RX6) (T := TX6) (N := 12) hx hb hts inX6 tyX6 tyX6_ok nmX6 hown hK hP hD hS 0 rfl rfl 2 (by decide) (hts _ tw_206) (fun _ h9 => h9) rfl hin rfl (by decide +kernel) rfl rfl (Nat.le_of_ble_eq_true rfl) dX6_init_28 (fun H locs hP hD hS => ?_)
  have hP : va_P D vwCl [(h0, .inr (6, [.ref q8, .ref q17, .ref q26, .null, .null, .int 0, .null, .null, .null, .null, .int 0, .int 0])), (q8, .inl (cI, 1280, .inl (fun _ => 0))), (q17, .inl (cI, 1280, .inl (fun _ => 0))), (q26, .inl (cI, 1280, .inl (fun _ => 0)))] H := hP
  have hD : va_D A [(h0, .inr (6, [.ref q8, .ref q17, .ref q26, .null, .null, .int 0, .null, .null, .null, .null, .int 0, .int 0])), (q8, .inl (cI, 1280, .inl (fun _ => 0))), (q17, .inl (cI, 1280, .inl (fun _ => 0))), (q26, .inl (cI, 1280, .inl (fun _ => 0)))] := hD
  refine lv_aload_n hx hb dX6_init_31 rfl (lv_at hl 0 rfl) ?_
  refine lv_sipush (v := 1280) hx hb dX6_init_32 (by decide) ?_
  refine nwI hC hP hD hS (N := 1280) (by decide) rfl (by decide) (by decide) (by decide) dX6_init_35 (fun q35 H hP hD hS => ?_)
  have hP : va_P D vwCl [(h0, .inr (6, [.ref q8, .ref q17, .ref q26, .null, .null, .int 0, .null, .null, .null, .null, .int 0, .int 0])), (q8, .inl (cI, 1280, .inl (fun _ => 0))), (q17, .inl (cI, 1280, .inl (fun _ => 0))), (q26, .inl (cI, 1280, .inl (fun _ => 0))), (q35, .inl (cI, 1280, .inl (fun _ => 0)))] H := hP
  have hD : va_D A [(h0, .inr (6, [.ref q8, .ref q17, .ref q26, .null, .null, .int 0, .null, .null, .null, .null, .int 0, .int 0])), (q8, .inl (cI, 1280, .inl (fun _ => 0))), (q17, .inl (cI, 1280, .inl (fun _ => 0))), (q26, .inl (cI, 1280, .inl (fun _ => 0))), (q35, .inl (cI, 1280, .inl (fun _ => 0)))] := hD
  refine W.widen (k := 4) (n := 5120) (by omega) (by omega) ?_
  refine va_putF (D := D) (ci := 6) (v := .ref q35) (ty := .array .int) (C := RX6) (T := TX6) (N := 12) hx hb hts inX6 tyX6 tyX6_ok nmX6 hown hK hP hD hS 0 rfl rfl 3 (by decide) (hts _ tw_208) (fun _ h9 => h9) rfl hin rfl (by decide +kernel) rfl rfl (Nat.le_of_ble_eq_true rfl) dX6_init_37 (fun H locs hP hD hS => ?_)
  have hP : va_P D vwCl [(h0, .inr (6, [.ref q8, .ref q17, .ref q26, .ref q35, .null, .int 0, .null, .null, .null, .null, .int 0, .int 0])), (q8, .inl (cI, 1280, .inl (fun _ => 0))), (q17, .inl (cI, 1280, .inl (fun _ => 0))), (q26, .inl (cI, 1280, .inl (fun _ => 0))), (q35, .inl (cI, 1280, .inl (fun _ => 0)))] H := hP
  have hD : va_D A [(h0, .inr (6, [.ref q8, .ref q17, .ref q26, .ref q35, .null, .int 0, .null, .null, .null, .null, .int 0, .int 0])), (q8, .inl (cI, 1280, .inl (fun _ => 0))), (q17, .inl (cI, 1280, .inl (fun _ => 0))), (q26, .inl (cI, 1280, .inl (fun _ => 0))), (q35, .inl (cI, 1280, .inl (fun _ => 0)))] := hD
  refine lv_aload_n hx hb dX6_init_40 rfl (lv_at hl 0 rfl) ?_
  refine lv_sipush (v := 1280) hx hb dX6_init_41 (by decide) ?_
  refine nwI hC hP hD hS (N := 1280) (by decide) rfl (by decide) (by decide) (by decide) dX6_init_44 (fun q44 H hP hD hS => ?_)
  have hP : va_P D vwCl [(h0, .inr (6, [.ref q8, .ref q17, .ref q26, .ref q35, .null, .int 0, .null, .null, .null, .null, .int 0, .int 0])), (q8, .inl (cI, 1280, .inl (fun _ => 0))), (q17, .inl (cI, 1280, .inl (fun _ => 0))), (q26, .inl (cI, 1280, .inl (fun _ => 0))), (q35, .inl (cI, 1280, .inl (fun _ => 0))), (q44, .inl (cI, 1280, .inl (fun _ => 0)))] H := hP
  have hD : va_D A [(h0, .inr (6, [.ref q8, .ref q17, .ref q26, .ref q35, .null, .int 0, .null, .null, .null, .null, .int 0, .int 0])), (q8, .inl (cI, 1280, .inl (fun _ => 0))), (q17, .inl (cI, 1280, .inl (fun _ => 0))), (q26, .inl (cI, 1280, .inl (fun _ => 0))), (q35, .inl (cI, 1280, .inl (fun _ => 0))), (q44, .inl (cI, 1280, .inl (fun _ => 0)))] := hD
  refine W.widen (k := 5) (n := 6400) (by omega) (by omega) ?_
  refine va_putF (D := D) (ci := 6) (v := .ref q44) (ty := .array .int) (C := RX6) (T := TX6) (N := 12) hx hb hts inX6 tyX6 tyX6_ok nmX6 hown hK hP hD hS 0 rfl rfl 4 (by decide) (hts _ tw_210) (fun _ h9 => h9) rfl hin rfl (by decide +kernel) rfl rfl (Nat.le_of_ble_eq_true rfl) dX6_init_46 (fun H locs hP hD hS => ?_)
  have hP : va_P D vwCl [(h0, .inr (6, [.ref q8, .ref q17, .ref q26, .ref q35, .ref q44, .int 0, .null, .null, .null, .null, .int 0, .int 0])), (q8, .inl (cI, 1280, .inl (fun _ => 0))), (q17, .inl (cI, 1280, .inl (fun _ => 0))), (q26, .inl (cI, 1280, .inl (fun _ => 0))), (q35, .inl (cI, 1280, .inl (fun _ => 0))), (q44, .inl (cI, 1280, .inl (fun _ => 0)))] H := hP
  have hD : va_D A [(h0, .inr (6, [.ref q8, .ref q17, .ref q26, .ref q35, .ref q44, .int 0, .null, .null, .null, .null, .int 0, .int 0])), (q8, .inl (cI, 1280, .inl (fun _ => 0))), (q17, .inl (cI, 1280, .inl (fun _ => 0))), (q26, .inl (cI, 1280, .inl (fun _ => 0))), (q35, .inl (cI, 1280, .inl (fun _ => 0))), (q44, .inl (cI, 1280, .inl (fun _ => 0)))] := hD
  refine lv_aload_n hx hb dX6_init_49 rfl (lv_at hl 0 rfl) ?_
  refine va_new (ci := 5) (fs := [.null]) (C := RX5) (T := TX5) (N := 1) hx hb hts inX5 tyX5 tyX5_ok hown (hts _ tw_188) (hts _ tw_189) (hts _ tw_43) hK hP hD hS hA rfl (fun j hj => by rcases (show j = 0 by omega) with rfl <;> rfl) (by decide) (by decide) dX6_init_50 (fun q50 H hP hD hS => ?_)
  have hP : va_P D vwCl [(h0, .inr (6, [.ref q8, .ref q17, .ref q26, .ref q35, .ref q44, .int 0, .null, .null, .null, .null, .int 0, .int 0])), (q8, .inl (cI, 1280, .inl (fun _ => 0))), (q17, .inl (cI, 1280, .inl (fun _ => 0))), (q26, .inl (cI, 1280, .inl (fun _ => 0))), (q35, .inl (cI, 1280, .inl (fun _ => 0))), (q44, .inl (cI, 1280, .inl (fun _ => 0))), (q50, .inr (5, [.null]))] H := hP
  have hD : va_D A [(h0, .inr (6, [.ref q8, .ref q17, .ref q26, .ref q35, .ref q44, .int 0, .null, .null, .null, .null, .int 0, .int 0])), (q8, .inl (cI, 1280, .inl (fun _ => 0))), (q17, .inl (cI, 1280, .inl (fun _ => 0))), (q26, .inl (cI, 1280, .inl (fun _ => 0))), (q35, .inl (cI, 1280, .inl (fun _ => 0))), (q44, .inl (cI, 1280, .inl (fun _ => 0))), (q50, .inr (5, [.null]))] := hD
  refine W.widen (k := 6) (n := 6401) (by omega) (by omega) ?_
  refine lv_dup hx hb dX6_init_53 rfl ?_
  have hPc := hP.sub (ws' := [(q50, .inr (5, [.null]))]) [6] rfl
  have hDc := hD.sub (ws' := [(q50, .inr (5, [.null]))]) [6] (by decide) rfl
  have hFc := va_free (wc := [(q50, .inr (5, [.null]))]) hD hS hA [6] rfl
  refine va_callv (va_runIN (As := []) (rest := [.ref q50, .ref h0]) ⟨hx, hb, hml, hown, hts⟩ (kn_X5 l cI cJ cZ q50 D H.size) ⟨va_cnB (Ts := gw) (ws' := gw) 0 hts (gw_pay hts tw_192) rfl rfl rfl hN.2.2.2.1 (hts _ tw_43) ⟨by decide, by decide, by decide +kernel⟩ ⟨by decide, by decide⟩, rfl, hts _ tw_191⟩ ⟨pn_blind, fun U hU hW => ⟨rfl, by rw [hU], by rw [hU]; exact hPc, va_K.moved hW.alike hK, nC.warm hW hN, hDc.weaken (fun _ _ _ _ => trivial)⟩⟩ rfl rfl hl.1 rfl (lv_room (Nat.le_of_ble_eq_true rfl)) dX6_init_54 ⟨by decide, by decide⟩) hS (fun q _ h => hFc q h) hFc (fun u t H1 locs ht hvm hw hB hz1 hk1 hS => ?_)
  obtain ⟨hP1, hD1⟩ := hB
  rw [ht] at hP1
  obtain ⟨w54_0, ew54_0⟩ : ∃ z, z = u 0 := ⟨_, rfl⟩
  have hP1 : va_P D vwCl [(q50, .inr (5, [.ref w54_0])), (w54_0, .inl (cJ, 256, .inr (.inl (fun _ => 0))))] H1 := by rw [ew54_0]; exact hP1
  have hD1 : va_D (va_A [(q50, .inr (5, [.null]))] H.size) [(q50, .inr (5, [.ref w54_0])), (w54_0, .inl (cJ, 256, .inr (.inl (fun _ => 0))))] := by rw [ew54_0]; exact hD1
  obtain ⟨hP, hD⟩ := va_join (wr := [(h0, .inr (6, [.ref q8, .ref q17, .ref q26, .ref q35, .ref q44, .int 0, .null, .null, .null, .null, .int 0, .int 0])), (q8, .inl (cI, 1280, .inl (fun _ => 0))), (q17, .inl (cI, 1280, .inl (fun _ => 0))), (q26, .inl (cI, 1280, .inl (fun _ => 0))), (q35, .inl (cI, 1280, .inl (fun _ => 0))), (q44, .inl (cI, 1280, .inl (fun _ => 0)))]) (w1 := [(q50, .inr (5, [.ref w54_0])), (w54_0, .inl (cJ, 256, .inr (.inl (fun _ => 0))))]) hP hD [6] [0, 1, 2, 3, 4, 5] rfl rfl (by decide) (by decide) hk1 hFc hP1 hD1
  generalize H1 = H at hP hS ⊢
  have hP : va_P D vwCl [(h0, .inr (6, [.ref q8, .ref q17, .ref q26, .ref q35, .ref q44, .int 0, .null, .null, .null, .null, .int 0, .int 0])), (q8, .inl (cI, 1280, .inl (fun _ => 0))), (q17, .inl (cI, 1280, .inl (fun _ => 0))), (q26, .inl (cI, 1280, .inl (fun _ => 0))), (q35, .inl (cI, 1280, .inl (fun _ => 0))), (q44, .inl (cI, 1280, .inl (fun _ => 0))), (q50, .inr (5, [.ref w54_0])), (w54_0, .inl (cJ, 256, .inr (.inl (fun _ => 0))))] H := hP
  have hD : va_D A [(h0, .inr (6, [.ref q8, .ref q17, .ref q26, .ref q35, .ref q44, .int 0, .null, .null, .null, .null, .int 0, .int 0])), (q8, .inl (cI, 1280, .inl (fun _ => 0))), (q17, .inl (cI, 1280, .inl (fun _ => 0))), (q26, .inl (cI, 1280, .inl (fun _ => 0))), (q35, .inl (cI, 1280, .inl (fun _ => 0))), (q44, .inl (cI, 1280, .inl (fun _ => 0))), (q50, .inr (5, [.ref w54_0])), (w54_0, .inl (cJ, 256, .inr (.inl (fun _ => 0))))] := hD
  refine W.widen (k := 7) (n := 6657) (by omega) (by omega) ?_
  refine va_putF (D := D) (ci := 6) (v := .ref q50) (ty := .object "LimitTrees$TreeBits") (C := RX6) (T := TX6) (N := 12) hx hb hts inX6 tyX6 tyX6_ok nmX6 hown hK hP hD hS 0 rfl rfl 7 (by decide) (hts _ tw_216) (fun _ h9 => h9) rfl hin rfl (by decide +kernel) rfl rfl (Nat.le_of_ble_eq_true rfl) dX6_init_57 (fun H locs hP hD hS => ?_)
  have hP : va_P D vwCl [(h0, .inr (6, [.ref q8, .ref q17, .ref q26, .ref q35, .ref q44, .int 0, .null, .ref q50, .null, .null, .int 0, .int 0])), (q8, .inl (cI, 1280, .inl (fun _ => 0))), (q17, .inl (cI, 1280, .inl (fun _ => 0))), (q26, .inl (cI, 1280, .inl (fun _ => 0))), (q35, .inl (cI, 1280, .inl (fun _ => 0))), (q44, .inl (cI, 1280, .inl (fun _ => 0))), (q50, .inr (5, [.ref w54_0])), (w54_0, .inl (cJ, 256, .inr (.inl (fun _ => 0))))] H := hP
  have hD : va_D A [(h0, .inr (6, [.ref q8, .ref q17, .ref q26, .ref q35, .ref q44, .int 0, .null, .ref q50, .null, .null, .int 0, .int 0])), (q8, .inl (cI, 1280, .inl (fun _ => 0))), (q17, .inl (cI, 1280, .inl (fun _ => 0))), (q26, .inl (cI, 1280, .inl (fun _ => 0))), (q35, .inl (cI, 1280, .inl (fun _ => 0))), (q44, .inl (cI, 1280, .inl (fun _ => 0))), (q50, .inr (5, [.ref w54_0])), (w54_0, .inl (cJ, 256, .inr (.inl (fun _ => 0))))] := hD
  refine lv_aload_n hx hb dX6_init_60 rfl (lv_at hl 0 rfl) ?_
  refine lv_sipush (v := 256) hx hb dX6_init_61 (by decide) ?_
  refine nwI hC hP hD hS (N := 256) (by decide) rfl (by decide) (by decide) (by decide) dX6_init_64 (fun q64 H hP hD hS => ?_)
  have hP : va_P D vwCl [(h0, .inr (6, [.ref q8, .ref q17, .ref q26, .ref q35, .ref q44, .int 0, .null, .ref q50, .null, .null, .int 0, .int 0])), (q8, .inl (cI, 1280, .inl (fun _ => 0))), (q17, .inl (cI, 1280, .inl (fun _ => 0))), (q26, .inl (cI, 1280, .inl (fun _ => 0))), (q35, .inl (cI, 1280, .inl (fun _ => 0))), (q44, .inl (cI, 1280, .inl (fun _ => 0))), (q50, .inr (5, [.ref w54_0])), (w54_0, .inl (cJ, 256, .inr (.inl (fun _ => 0)))), (q64, .inl (cI, 256, .inl (fun _ => 0)))] H := hP
  have hD : va_D A [(h0, .inr (6, [.ref q8, .ref q17, .ref q26, .ref q35, .ref q44, .int 0, .null, .ref q50, .null, .null, .int 0, .int 0])), (q8, .inl (cI, 1280, .inl (fun _ => 0))), (q17, .inl (cI, 1280, .inl (fun _ => 0))), (q26, .inl (cI, 1280, .inl (fun _ => 0))), (q35, .inl (cI, 1280, .inl (fun _ => 0))), (q44, .inl (cI, 1280, .inl (fun _ => 0))), (q50, .inr (5, [.ref w54_0])), (w54_0, .inl (cJ, 256, .inr (.inl (fun _ => 0)))), (q64, .inl (cI, 256, .inl (fun _ => 0)))] := hD
  refine W.widen (k := 8) (n := 6913) (by omega) (by omega) ?_
  refine va_putF (D := D) (ci := 6) (v := .ref q64) (ty := .array .int) (C := RX6) (T := TX6) (N := 12) hx hb hts inX6 tyX6 tyX6_ok nmX6 hown hK hP hD hS 0 rfl rfl 8 (by decide) (hts _ tw_217) (fun _ h9 => h9) rfl hin rfl (by decide +kernel) rfl rfl (Nat.le_of_ble_eq_true rfl) dX6_init_66 (fun H locs hP hD hS => ?_)
  have hP : va_P D vwCl [(h0, .inr (6, [.ref q8, .ref q17, .ref q26, .ref q35, .ref q44, .int 0, .null, .ref q50, .ref q64, .null, .int 0, .int 0])), (q8, .inl (cI, 1280, .inl (fun _ => 0))), (q17, .inl (cI, 1280, .inl (fun _ => 0))), (q26, .inl (cI, 1280, .inl (fun _ => 0))), (q35, .inl (cI, 1280, .inl (fun _ => 0))), (q44, .inl (cI, 1280, .inl (fun _ => 0))), (q50, .inr (5, [.ref w54_0])), (w54_0, .inl (cJ, 256, .inr (.inl (fun _ => 0)))), (q64, .inl (cI, 256, .inl (fun _ => 0)))] H := hP
  have hD : va_D A [(h0, .inr (6, [.ref q8, .ref q17, .ref q26, .ref q35, .ref q44, .int 0, .null, .ref q50, .ref q64, .null, .int 0, .int 0])), (q8, .inl (cI, 1280, .inl (fun _ => 0))), (q17, .inl (cI, 1280, .inl (fun _ => 0))), (q26, .inl (cI, 1280, .inl (fun _ => 0))), (q35, .inl (cI, 1280, .inl (fun _ => 0))), (q44, .inl (cI, 1280, .inl (fun _ => 0))), (q50, .inr (5, [.ref w54_0])), (w54_0, .inl (cJ, 256, .inr (.inl (fun _ => 0)))), (q64, .inl (cI, 256, .inl (fun _ => 0)))] := hD
  refine lv_aload_n hx hb dX6_init_69 rfl (lv_at hl 0 rfl) ?_
  refine lv_bipush (v := 64) hx hb dX6_init_70 (by decide) ?_
  refine nwI hC hP hD hS (N := 64) (by decide) rfl (by decide) (by decide) (by decide) dX6_init_72 (fun q72 H hP hD hS => ?_)
  have hP : va_P D vwCl [(h0, .inr (6, [.ref q8, .ref q17, .ref q26, .ref q35, .ref q44, .int 0, .null, .ref q50, .ref q64, .null, .int 0, .int 0])), (q8, .inl (cI, 1280, .inl (fun _ => 0))), (q17, .inl (cI, 1280, .inl (fun _ => 0))), (q26, .inl (cI, 1280, .inl (fun _ => 0))), (q35, .inl (cI, 1280, .inl (fun _ => 0))), (q44, .inl (cI, 1280, .inl (fun _ => 0))), (q50, .inr (5, [.ref w54_0])), (w54_0, .inl (cJ, 256, .inr (.inl (fun _ => 0)))), (q64, .inl (cI, 256, .inl (fun _ => 0))), (q72, .inl (cI, 64, .inl (fun _ => 0)))] H := hP
  have hD : va_D A [(h0, .inr (6, [.ref q8, .ref q17, .ref q26, .ref q35, .ref q44, .int 0, .null, .ref q50, .ref q64, .null, .int 0, .int 0])), (q8, .inl (cI, 1280, .inl (fun _ => 0))), (q17, .inl (cI, 1280, .inl (fun _ => 0))), (q26, .inl (cI, 1280, .inl (fun _ => 0))), (q35, .inl (cI, 1280, .inl (fun _ => 0))), (q44, .inl (cI, 1280, .inl (fun _ => 0))), (q50, .inr (5, [.ref w54_0])), (w54_0, .inl (cJ, 256, .inr (.inl (fun _ => 0)))), (q64, .inl (cI, 256, .inl (fun _ => 0))), (q72, .inl (cI, 64, .inl (fun _ => 0)))] := hD
  refine W.widen (k := 9) (n := 6977) (by omega) (by omega) ?_
  refine va_putF (D := D) (ci := 6) (v := .ref q72) (ty := .array .int) (C := RX6) (T := TX6) (N := 12) hx hb hts inX6 tyX6 tyX6_ok nmX6 hown hK hP hD hS 0 rfl rfl 9 (by decide) (hts _ tw_218) (fun _ h9 => h9) rfl hin rfl (by decide +kernel) rfl rfl (Nat.le_of_ble_eq_true rfl) dX6_init_74 (fun H locs hP hD hS => ?_)
  have hP : va_P D vwCl [(h0, .inr (6, [.ref q8, .ref q17, .ref q26, .ref q35, .ref q44, .int 0, .null, .ref q50, .ref q64, .ref q72, .int 0, .int 0])), (q8, .inl (cI, 1280, .inl (fun _ => 0))), (q17, .inl (cI, 1280, .inl (fun _ => 0))), (q26, .inl (cI, 1280, .inl (fun _ => 0))), (q35, .inl (cI, 1280, .inl (fun _ => 0))), (q44, .inl (cI, 1280, .inl (fun _ => 0))), (q50, .inr (5, [.ref w54_0])), (w54_0, .inl (cJ, 256, .inr (.inl (fun _ => 0)))), (q64, .inl (cI, 256, .inl (fun _ => 0))), (q72, .inl (cI, 64, .inl (fun _ => 0)))] H := hP
  have hD : va_D A [(h0, .inr (6, [.ref q8, .ref q17, .ref q26, .ref q35, .ref q44, .int 0, .null, .ref q50, .ref q64, .ref q72, .int 0, .int 0])), (q8, .inl (cI, 1280, .inl (fun _ => 0))), (q17, .inl (cI, 1280, .inl (fun _ => 0))), (q26, .inl (cI, 1280, .inl (fun _ => 0))), (q35, .inl (cI, 1280, .inl (fun _ => 0))), (q44, .inl (cI, 1280, .inl (fun _ => 0))), (q50, .inr (5, [.ref w54_0])), (w54_0, .inl (cJ, 256, .inr (.inl (fun _ => 0)))), (q64, .inl (cI, 256, .inl (fun _ => 0))), (q72, .inl (cI, 64, .inl (fun _ => 0)))] := hD
  refine lv_aload_n hx hb dX6_init_77 rfl (lv_at hl 0 rfl) ?_
  refine lv_aload_n hx hb dX6_init_78 rfl (lv_at hl 1 rfl) ?_
  refine va_putF (D := D) (ci := 6) (v := .ref a1) (ty := .object "LimitTrees$Net") (C := RX6) (T := TX6) (N := 12) hx hb hts inX6 tyX6 tyX6_ok nmX6 hown hK hP hD hS 0 rfl rfl 6 (by decide) (hts _ tw_215) (fun _ h9 => h9) rfl hin rfl (by decide +kernel) rfl rfl (Nat.le_of_ble_eq_true rfl) dX6_init_79 (fun H locs hP hD hS => ?_)
  have hP : va_P D vwCl [(h0, .inr (6, [.ref q8, .ref q17, .ref q26, .ref q35, .ref q44, .int 0, .ref a1, .ref q50, .ref q64, .ref q72, .int 0, .int 0])), (q8, .inl (cI, 1280, .inl (fun _ => 0))), (q17, .inl (cI, 1280, .inl (fun _ => 0))), (q26, .inl (cI, 1280, .inl (fun _ => 0))), (q35, .inl (cI, 1280, .inl (fun _ => 0))), (q44, .inl (cI, 1280, .inl (fun _ => 0))), (q50, .inr (5, [.ref w54_0])), (w54_0, .inl (cJ, 256, .inr (.inl (fun _ => 0)))), (q64, .inl (cI, 256, .inl (fun _ => 0))), (q72, .inl (cI, 64, .inl (fun _ => 0)))] H := hP
  have hD : va_D A [(h0, .inr (6, [.ref q8, .ref q17, .ref q26, .ref q35, .ref q44, .int 0, .ref a1, .ref q50, .ref q64, .ref q72, .int 0, .int 0])), (q8, .inl (cI, 1280, .inl (fun _ => 0))), (q17, .inl (cI, 1280, .inl (fun _ => 0))), (q26, .inl (cI, 1280, .inl (fun _ => 0))), (q35, .inl (cI, 1280, .inl (fun _ => 0))), (q44, .inl (cI, 1280, .inl (fun _ => 0))), (q50, .inr (5, [.ref w54_0])), (w54_0, .inl (cJ, 256, .inr (.inl (fun _ => 0)))), (q64, .inl (cI, 256, .inl (fun _ => 0))), (q72, .inl (cI, 64, .inl (fun _ => 0)))] := hD
  exact W.vret hx hb hr (fun t ht hW => ⟨⟨(fun k => ([q8, q17, q26, q35, q44, q50, w54_0, q64, q72] : List Nat).getD k 0), rfl, trivial, by rw [ht]; exact hP, hD⟩, hS.F ht⟩) hS.2.2 dX6_init_82 hlocks
theorem dX0_init_0 : decode cX0_init 0 = .ok (.aload_n 0, 1) := by decide +kernel
theorem dX0_init_1 : decode cX0_init 1 = .ok (.invokespecial 5, 3) := by decide +kernel
theorem dX0_init_4 : decode cX0_init 4 = .ok (.aload_n 0, 1) := by decide +kernel
theorem dX0_init_5 : decode cX0_init 5 = .ok (.sipush 1280, 3) := by decide +kernel
theorem dX0_init_8 : decode cX0_init 8 = .ok (.newarray .int, 2) := by decide +kernel
theorem dX0_init_10 : decode cX0_init 10 = .ok (.putfield 11, 3) := by decide +kernel
theorem dX0_init_13 : decode cX0_init 13 = .ok (.aload_n 0, 1) := by decide +kernel
theorem dX0_init_14 : decode cX0_init 14 = .ok (.sipush 1280, 3) := by decide +kernel
theorem dX0_init_17 : decode cX0_init 17 = .ok (.newarray .int, 2) := by decide +kernel
theorem dX0_init_19 : decode cX0_init 19 = .ok (.putfield 15, 3) := by decide +kernel
theorem dX0_init_22 : decode cX0_init 22 = .ok (.aload_n 0, 1) := by decide +kernel
theorem dX0_init_23 : decode cX0_init 23 = .ok (.sipush 1280, 3) := by decide +kernel
theorem dX0_init_26 : decode cX0_init 26 = .ok (.newarray .int, 2) := by decide +kernel
theorem dX0_init_28 : decode cX0_init 28 = .ok (.putfield 18, 3) := by decide +kernel
theorem dX0_init_31 : decode cX0_init 31 = .ok (.aload_n 0, 1) := by decide +kernel
theorem dX0_init_32 : decode cX0_init 32 = .ok (.sipush 128, 3) := by decide +kernel
theorem dX0_init_35 : decode cX0_init 35 = .ok (.newarray .int, 2) := by decide +kernel
theorem dX0_init_37 : decode cX0_init 37 = .ok (.putfield 21, 3) := by decide +kernel
theorem dX0_init_40 : decode cX0_init 40 = .ok (.aload_n 0, 1) := by decide +kernel
theorem dX0_init_41 : decode cX0_init 41 = .ok (.aload_n 1, 1) := by decide +kernel
theorem dX0_init_42 : decode cX0_init 42 = .ok (.putfield 24, 3) := by decide +kernel
theorem dX0_init_45 : decode cX0_init 45 = .ok (.aload_n 0, 1) := by decide +kernel
theorem dX0_init_46 : decode cX0_init 46 = .ok (.aload_n 2, 1) := by decide +kernel
theorem dX0_init_47 : decode cX0_init 47 = .ok (.putfield 28, 3) := by decide +kernel
theorem dX0_init_50 : decode cX0_init 50 = .ok (.aload_n 0, 1) := by decide +kernel
theorem dX0_init_51 : decode cX0_init 51 = .ok (.aload_n 3, 1) := by decide +kernel
theorem dX0_init_52 : decode cX0_init 52 = .ok (.putfield 32, 3) := by decide +kernel
theorem dX0_init_55 : decode cX0_init 55 = .ok (.return_, 1) := by decide +kernel
abbrev rn_X0 : Room := { frames := 1, cells := 4, slots := 3968, locals := 12 }
set_option maxHeartbeats 4000000 in
set_option maxRecDepth 100000 in
theorem kn_X0 (l : Launch) (cI cJ cZ : ClassId) (h0 : Nat) (a1 : Nat) (a2 : Nat) (a3 : Nat) : CtN l yX0_init (gws (.code yX0_init cX0_init 4 none)) rn_X0 (ty3 cI cJ cZ) [.ref h0, .ref a1, .ref a2, .ref a3] [(h0, .inr (0, [.null, .int 0, .int 0, .int 0, .null, .null, .null, .null, .null, .null, .int 0, .int 0]))] (fun ad => [(h0, .inr (0, [.ref (ad 0), .int 0, .int 0, .int 0, .ref a1, .ref a2, .ref a3, .ref (ad 1), .ref (ad 2), .ref (ad 3), .int 0, .int 0])), ((ad 0), .inl (cI, 1280, .inl (fun _ => 0))), ((ad 1), .inl (cI, 1280, .inl (fun _ => 0))), ((ad 2), .inl (cI, 1280, .inl (fun _ => 0))), ((ad 3), .inl (cI, 128, .inl (fun _ => 0)))]) 4 3968 := by
  refine CtN.of (by decide) rfl (Nat.le_of_ble_eq_true rfl) ?_
  generalize hav : ([.ref h0, .ref a1, .ref a2, .ref a3] : List Value) = av
  intro p e s m below meth c D A hC ls hl hP hD hS
  obtain ⟨hx, hb, hr, hlocks, hml, hown, hts, hK, hN, hin, hA⟩ := id hC
  rw [← hav] at hl
  have hl : lv_has ls 4 [(0, .ref h0), (1, .ref a1), (2, .ref a2), (3, .ref a3)] := hl
  obtain ⟨H, hH⟩ : ∃ z, z = s.heap := ⟨_, rfl⟩
  obtain ⟨locs, hlocs⟩ : ∃ z : List Loc, z = [] := ⟨_, rfl⟩
  rw [← hH] at hP
  have hS : va_S A s.heap H locs := by rw [hH, hlocs]; exact va_S.rf
  suffices hgoal : W p l e _ s m _ below meth c H locs 0 0 _ _ by rw [hH, hlocs] at hgoal; exact hgoal
  refine lv_aload_n hx hb dX0_init_0 rfl (lv_at hl 0 rfl) ?_
  refine n_obj hC tw_251 tw_57 hl.1 ⟨by decide, by decide⟩ dX0_init_1 ?_
  refine lv_aload_n hx hb dX0_init_4 rfl (lv_at hl 0 rfl) ?_
  refine lv_sipush (v := 1280) hx hb dX0_init_5 (by decide) ?_
  refine nwI hC hP hD hS (N := 1280) (by decide) rfl (by decide) (by decide) (by decide) dX0_init_8 (fun q8 H hP hD hS => ?_)
  have hP : va_P D vwCl [(h0, .inr (0, [.null, .int 0, .int 0, .int 0, .null, .null, .null, .null, .null, .null, .int 0, .int 0])), (q8, .inl (cI, 1280, .inl (fun _ => 0)))] H := hP
  have hD : va_D A [(h0, .inr (0, [.null, .int 0, .int 0, .int 0, .null, .null, .null, .null, .null, .null, .int 0, .int 0])), (q8, .inl (cI, 1280, .inl (fun _ => 0)))] := hD
  refine W.widen (k := 1) (n := 1280) (by omega) (by omega) ?_
  refine va_putF (D := D) (ci := 0) (v := .ref q8) (ty := .array .int) (C := RX0) (T := TX0) (N := 12) hx hb hts inX0 tyX0 tyX0_ok nmX0 hown hK hP hD hS 0 rfl rfl 0 (by decide) (hts _ tw_252) (fun _ h9 => h9) rfl hin rfl (by decide +kernel) rfl rfl (Nat.le_of_ble_eq_true rfl) dX0_init_10 (fun H locs hP hD hS => ?_)
  have hP : va_P D vwCl [(h0, .inr (0, [.ref q8, .int 0, .int 0, .int 0, .null, .null, .null, .null, .null, .null, .int 0, .int 0])), (q8, .inl (cI, 1280, .inl (fun _ => 0)))] H := hP
  have hD : va_D A [(h0, .inr (0, [.ref q8, .int 0, .int 0, .int 0, .null, .null, .null, .null, .null, .null, .int 0, .int 0])), (q8, .inl (cI, 1280, .inl (fun _ => 0)))] := hD
  refine lv_aload_n hx hb dX0_init_13 rfl (lv_at hl 0 rfl) ?_
  refine lv_sipush (v := 1280) hx hb dX0_init_14 (by decide) ?_
  refine nwI hC hP hD hS (N := 1280) (by decide) rfl (by decide) (by decide) (by decide) dX0_init_17 (fun q17 H hP hD hS => ?_)
  have hP : va_P D vwCl [(h0, .inr (0, [.ref q8, .int 0, .int 0, .int 0, .null, .null, .null, .null, .null, .null, .int 0, .int 0])), (q8, .inl (cI, 1280, .inl (fun _ => 0))), (q17, .inl (cI, 1280, .inl (fun _ => 0)))] H := hP
  have hD : va_D A [(h0, .inr (0, [.ref q8, .int 0, .int 0, .int 0, .null, .null, .null, .null, .null, .null, .int 0, .int 0])), (q8, .inl (cI, 1280, .inl (fun _ => 0))), (q17, .inl (cI, 1280, .inl (fun _ => 0)))] := hD
  refine W.widen (k := 2) (n := 2560) (by omega) (by omega) ?_
  refine va_putF (D := D) (ci := 0) (v := .ref q17) (ty := .array .int) (C := RX0) (T := TX0) (N := 12) hx hb hts inX0 tyX0 tyX0_ok nmX0 hown hK hP hD hS 0 rfl rfl 7 (by decide) (hts _ tw_265) (fun _ h9 => h9) rfl hin rfl (by decide +kernel) rfl rfl (Nat.le_of_ble_eq_true rfl) dX0_init_19 (fun H locs hP hD hS => ?_)
  have hP : va_P D vwCl [(h0, .inr (0, [.ref q8, .int 0, .int 0, .int 0, .null, .null, .null, .ref q17, .null, .null, .int 0, .int 0])), (q8, .inl (cI, 1280, .inl (fun _ => 0))), (q17, .inl (cI, 1280, .inl (fun _ => 0)))] H := hP
  have hD : va_D A [(h0, .inr (0, [.ref q8, .int 0, .int 0, .int 0, .null, .null, .null, .ref q17, .null, .null, .int 0, .int 0])), (q8, .inl (cI, 1280, .inl (fun _ => 0))), (q17, .inl (cI, 1280, .inl (fun _ => 0)))] := hD
  refine lv_aload_n hx hb dX0_init_22 rfl (lv_at hl 0 rfl) ?_
  refine lv_sipush (v := 1280) hx hb dX0_init_23 (by decide) ?_
  refine nwI hC hP hD hS (N := 1280) (by decide) rfl (by decide) (by decide) (by decide) dX0_init_26 (fun q26 H hP hD hS => ?_)
  have hP : va_P D vwCl [(h0, .inr (0, [.ref q8, .int 0, .int 0, .int 0, .null, .null, .null, .ref q17, .null, .null, .int 0, .int 0])), (q8, .inl (cI, 1280, .inl (fun _ => 0))), (q17, .inl (cI, 1280, .inl (fun _ => 0))), (q26, .inl (cI, 1280, .inl (fun _ => 0)))] H := hP
  have hD : va_D A [(h0, .inr (0, [.ref q8, .int 0, .int 0, .int 0, .null, .null, .null, .ref q17, .null, .null, .int 0, .int 0])), (q8, .inl (cI, 1280, .inl (fun _ => 0))), (q17, .inl (cI, 1280, .inl (fun _ => 0))), (q26, .inl (cI, 1280, .inl (fun _ => 0)))] := hD
  refine W.widen (k := 3) (n := 3840) (by omega) (by omega) ?_
  refine va_putF (D := D) (ci := 0) (v := .ref q26) (ty := .array .int) (C := RX0) (T := TX0) (N := 12) hx hb hts inX0 tyX0 tyX0_ok nmX0 hown hK hP hD hS 0 rfl rfl 8 (by decide) (hts _ tw_266) (fun _ h9 => h9) rfl hin rfl (by decide +kernel) rfl rfl (Nat.le_of_ble_eq_true rfl) dX0_init_28 (fun H locs hP hD hS => ?_)
  have hP : va_P D vwCl [(h0, .inr (0, [.ref q8, .int 0, .int 0, .int 0, .null, .null, .null, .ref q17, .ref q26, .null, .int 0, .int 0])), (q8, .inl (cI, 1280, .inl (fun _ => 0))), (q17, .inl (cI, 1280, .inl (fun _ => 0))), (q26, .inl (cI, 1280, .inl (fun _ => 0)))] H := hP
  have hD : va_D A [(h0, .inr (0, [.ref q8, .int 0, .int 0, .int 0, .null, .null, .null, .ref q17, .ref q26, .null, .int 0, .int 0])), (q8, .inl (cI, 1280, .inl (fun _ => 0))), (q17, .inl (cI, 1280, .inl (fun _ => 0))), (q26, .inl (cI, 1280, .inl (fun _ => 0)))] := hD
  refine lv_aload_n hx hb dX0_init_31 rfl (lv_at hl 0 rfl) ?_
  refine lv_sipush (v := 128) hx hb dX0_init_32 (by decide) ?_
  refine nwI hC hP hD hS (N := 128) (by decide) rfl (by decide) (by decide) (by decide) dX0_init_35 (fun q35 H hP hD hS => ?_)
  have hP : va_P D vwCl [(h0, .inr (0, [.ref q8, .int 0, .int 0, .int 0, .null, .null, .null, .ref q17, .ref q26, .null, .int 0, .int 0])), (q8, .inl (cI, 1280, .inl (fun _ => 0))), (q17, .inl (cI, 1280, .inl (fun _ => 0))), (q26, .inl (cI, 1280, .inl (fun _ => 0))), (q35, .inl (cI, 128, .inl (fun _ => 0)))] H := hP
  have hD : va_D A [(h0, .inr (0, [.ref q8, .int 0, .int 0, .int 0, .null, .null, .null, .ref q17, .ref q26, .null, .int 0, .int 0])), (q8, .inl (cI, 1280, .inl (fun _ => 0))), (q17, .inl (cI, 1280, .inl (fun _ => 0))), (q26, .inl (cI, 1280, .inl (fun _ => 0))), (q35, .inl (cI, 128, .inl (fun _ => 0)))] := hD
  refine W.widen (k := 4) (n := 3968) (by omega) (by omega) ?_
  refine va_putF (D := D) (ci := 0) (v := .ref q35) (ty := .array .int) (C := RX0) (T := TX0) (N := 12) hx hb hts inX0 tyX0 tyX0_ok nmX0 hown hK hP hD hS 0 rfl rfl 9 (by decide) (hts _ tw_267) (fun _ h9 => h9) rfl hin rfl (by decide +kernel) rfl rfl (Nat.le_of_ble_eq_true rfl) dX0_init_37 (fun H locs hP hD hS => ?_)
  have hP : va_P D vwCl [(h0, .inr (0, [.ref q8, .int 0, .int 0, .int 0, .null, .null, .null, .ref q17, .ref q26, .ref q35, .int 0, .int 0])), (q8, .inl (cI, 1280, .inl (fun _ => 0))), (q17, .inl (cI, 1280, .inl (fun _ => 0))), (q26, .inl (cI, 1280, .inl (fun _ => 0))), (q35, .inl (cI, 128, .inl (fun _ => 0)))] H := hP
  have hD : va_D A [(h0, .inr (0, [.ref q8, .int 0, .int 0, .int 0, .null, .null, .null, .ref q17, .ref q26, .ref q35, .int 0, .int 0])), (q8, .inl (cI, 1280, .inl (fun _ => 0))), (q17, .inl (cI, 1280, .inl (fun _ => 0))), (q26, .inl (cI, 1280, .inl (fun _ => 0))), (q35, .inl (cI, 128, .inl (fun _ => 0)))] := hD
  refine lv_aload_n hx hb dX0_init_40 rfl (lv_at hl 0 rfl) ?_
  refine lv_aload_n hx hb dX0_init_41 rfl (lv_at hl 1 rfl) ?_
  refine va_putF (D := D) (ci := 0) (v := .ref a1) (ty := .object "LimitTrees$Net") (C := RX0) (T := TX0) (N := 12) hx hb hts inX0 tyX0 tyX0_ok nmX0 hown hK hP hD hS 0 rfl rfl 4 (by decide) (hts _ tw_262) (fun _ h9 => h9) rfl hin rfl (by decide +kernel) rfl rfl (Nat.le_of_ble_eq_true rfl) dX0_init_42 (fun H locs hP hD hS => ?_)
  have hP : va_P D vwCl [(h0, .inr (0, [.ref q8, .int 0, .int 0, .int 0, .ref a1, .null, .null, .ref q17, .ref q26, .ref q35, .int 0, .int 0])), (q8, .inl (cI, 1280, .inl (fun _ => 0))), (q17, .inl (cI, 1280, .inl (fun _ => 0))), (q26, .inl (cI, 1280, .inl (fun _ => 0))), (q35, .inl (cI, 128, .inl (fun _ => 0)))] H := hP
  have hD : va_D A [(h0, .inr (0, [.ref q8, .int 0, .int 0, .int 0, .ref a1, .null, .null, .ref q17, .ref q26, .ref q35, .int 0, .int 0])), (q8, .inl (cI, 1280, .inl (fun _ => 0))), (q17, .inl (cI, 1280, .inl (fun _ => 0))), (q26, .inl (cI, 1280, .inl (fun _ => 0))), (q35, .inl (cI, 128, .inl (fun _ => 0)))] := hD
  refine lv_aload_n hx hb dX0_init_45 rfl (lv_at hl 0 rfl) ?_
  refine lv_aload_n hx hb dX0_init_46 rfl (lv_at hl 2 rfl) ?_
  refine va_putF (D := D) (ci := 0) (v := .ref a2) (ty := .object "LimitTrees$Limits") (C := RX0) (T := TX0) (N := 12) hx hb hts inX0 tyX0 tyX0_ok nmX0 hown hK hP hD hS 0 rfl rfl 5 (by decide) (hts _ tw_263) (fun _ h9 => h9) rfl hin rfl (by decide +kernel) rfl rfl (Nat.le_of_ble_eq_true rfl) dX0_init_47 (fun H locs hP hD hS => ?_)
  have hP : va_P D vwCl [(h0, .inr (0, [.ref q8, .int 0, .int 0, .int 0, .ref a1, .ref a2, .null, .ref q17, .ref q26, .ref q35, .int 0, .int 0])), (q8, .inl (cI, 1280, .inl (fun _ => 0))), (q17, .inl (cI, 1280, .inl (fun _ => 0))), (q26, .inl (cI, 1280, .inl (fun _ => 0))), (q35, .inl (cI, 128, .inl (fun _ => 0)))] H := hP
  have hD : va_D A [(h0, .inr (0, [.ref q8, .int 0, .int 0, .int 0, .ref a1, .ref a2, .null, .ref q17, .ref q26, .ref q35, .int 0, .int 0])), (q8, .inl (cI, 1280, .inl (fun _ => 0))), (q17, .inl (cI, 1280, .inl (fun _ => 0))), (q26, .inl (cI, 1280, .inl (fun _ => 0))), (q35, .inl (cI, 128, .inl (fun _ => 0)))] := hD
  refine lv_aload_n hx hb dX0_init_50 rfl (lv_at hl 0 rfl) ?_
  refine lv_aload_n hx hb dX0_init_51 rfl (lv_at hl 3 rfl) ?_
  refine va_putF (D := D) (ci := 0) (v := .ref a3) (ty := .object "LimitTrees$TreeList") (C := RX0) (T := TX0) (N := 12) hx hb hts inX0 tyX0 tyX0_ok nmX0 hown hK hP hD hS 0 rfl rfl 6 (by decide) (hts _ tw_264) (fun _ h9 => h9) rfl hin rfl (by decide +kernel) rfl rfl (Nat.le_of_ble_eq_true rfl) dX0_init_52 (fun H locs hP hD hS => ?_)
  have hP : va_P D vwCl [(h0, .inr (0, [.ref q8, .int 0, .int 0, .int 0, .ref a1, .ref a2, .ref a3, .ref q17, .ref q26, .ref q35, .int 0, .int 0])), (q8, .inl (cI, 1280, .inl (fun _ => 0))), (q17, .inl (cI, 1280, .inl (fun _ => 0))), (q26, .inl (cI, 1280, .inl (fun _ => 0))), (q35, .inl (cI, 128, .inl (fun _ => 0)))] H := hP
  have hD : va_D A [(h0, .inr (0, [.ref q8, .int 0, .int 0, .int 0, .ref a1, .ref a2, .ref a3, .ref q17, .ref q26, .ref q35, .int 0, .int 0])), (q8, .inl (cI, 1280, .inl (fun _ => 0))), (q17, .inl (cI, 1280, .inl (fun _ => 0))), (q26, .inl (cI, 1280, .inl (fun _ => 0))), (q35, .inl (cI, 128, .inl (fun _ => 0)))] := hD
  exact W.vret hx hb hr (fun t ht hW => ⟨⟨(fun k => ([q8, q17, q26, q35] : List Nat).getD k 0), rfl, trivial, by rw [ht]; exact hP, hD⟩, hS.F ht⟩) hS.2.2 dX0_init_55 hlocks
theorem dX3_init_0 : decode cX3_init 0 = .ok (.aload_n 0, 1) := by decide +kernel
theorem dX3_init_1 : decode cX3_init 1 = .ok (.invokespecial 3, 3) := by decide +kernel
theorem dX3_init_4 : decode cX3_init 4 = .ok (.aload_n 0, 1) := by decide +kernel
theorem dX3_init_5 : decode cX3_init 5 = .ok (.sipush 1280, 3) := by decide +kernel
theorem dX3_init_8 : decode cX3_init 8 = .ok (.newarray .int, 2) := by decide +kernel
theorem dX3_init_10 : decode cX3_init 10 = .ok (.putfield 9, 3) := by decide +kernel
theorem dX3_init_13 : decode cX3_init 13 = .ok (.aload_n 0, 1) := by decide +kernel
theorem dX3_init_14 : decode cX3_init 14 = .ok (.new 15, 3) := by decide +kernel
theorem dX3_init_17 : decode cX3_init 17 = .ok (.dup, 1) := by decide +kernel
theorem dX3_init_18 : decode cX3_init 18 = .ok (.invokespecial 17, 3) := by decide +kernel
theorem dX3_init_21 : decode cX3_init 21 = .ok (.putfield 18, 3) := by decide +kernel
theorem dX3_init_24 : decode cX3_init 24 = .ok (.aload_n 0, 1) := by decide +kernel
theorem dX3_init_25 : decode cX3_init 25 = .ok (.iconst (-1), 1) := by decide +kernel
theorem dX3_init_26 : decode cX3_init 26 = .ok (.putfield 22, 3) := by decide +kernel
theorem dX3_init_29 : decode cX3_init 29 = .ok (.aload_n 0, 1) := by decide +kernel
theorem dX3_init_30 : decode cX3_init 30 = .ok (.aload_n 1, 1) := by decide +kernel
theorem dX3_init_31 : decode cX3_init 31 = .ok (.putfield 26, 3) := by decide +kernel
theorem dX3_init_34 : decode cX3_init 34 = .ok (.aload_n 0, 1) := by decide +kernel
theorem dX3_init_35 : decode cX3_init 35 = .ok (.aload_n 2, 1) := by decide +kernel
theorem dX3_init_36 : decode cX3_init 36 = .ok (.putfield 30, 3) := by decide +kernel
theorem dX3_init_39 : decode cX3_init 39 = .ok (.return_, 1) := by decide +kernel
abbrev rn_X3 : Room := { frames := 2, cells := 3, slots := 1537, locals := 40 }
set_option maxHeartbeats 4000000 in
set_option maxRecDepth 100000 in
theorem kn_X3 (l : Launch) (cI cJ cZ : ClassId) (h0 : Nat) (a1 : Nat) (a2 : Nat) : CtN l yX3_init (gws (.code yX3_init cX3_init 3 none)) rn_X3 (ty3 cI cJ cZ) [.ref h0, .ref a1, .ref a2] [(h0, .inr (3, [.null, .null, .null, .null, .int 0, .int 0, .int 0, .int 0]))] (fun ad => [(h0, .inr (3, [.ref a1, .ref a2, .ref (ad 0), .ref (ad 1), .int (-1), .int 0, .int 0, .int 0])), ((ad 0), .inl (cI, 1280, .inl (fun _ => 0))), ((ad 1), .inr (5, [.ref (ad 2)])), ((ad 2), .inl (cJ, 256, .inr (.inl (fun _ => 0))))]) 3 1537 := by
  refine CtN.of (by decide) rfl (Nat.le_of_ble_eq_true rfl) ?_
  generalize hav : ([.ref h0, .ref a1, .ref a2] : List Value) = av
  intro p e s m below meth c D A hC ls hl hP hD hS
  obtain ⟨hx, hb, hr, hlocks, hml, hown, hts, hK, hN, hin, hA⟩ := id hC
  rw [← hav] at hl
  have hl : lv_has ls 3 [(0, .ref h0), (1, .ref a1), (2, .ref a2)] := hl
  obtain ⟨H, hH⟩ : ∃ z, z = s.heap := ⟨_, rfl⟩
  obtain ⟨locs, hlocs⟩ : ∃ z : List Loc, z = [] := ⟨_, rfl⟩
  rw [← hH] at hP
  have hS : va_S A s.heap H locs := by rw [hH, hlocs]; exact va_S.rf
  suffices hgoal : W p l e _ s m _ below meth c H locs 0 0 _ _ by rw [hH, hlocs] at hgoal; exact hgoal
  refine lv_aload_n hx hb dX3_init_0 rfl (lv_at hl 0 rfl) ?_
  refine n_obj hC tw_300 tw_57 hl.1 ⟨by decide, by decide⟩ dX3_init_1 ?_
  refine lv_aload_n hx hb dX3_init_4 rfl (lv_at hl 0 rfl) ?_
  refine lv_sipush (v := 1280) hx hb dX3_init_5 (by decide) ?_
  refine nwI hC hP hD hS (N := 1280) (by decide) rfl (by decide) (by decide) (by decide) dX3_init_8 (fun q8 H hP hD hS => ?_)
  have hP : va_P D vwCl [(h0, .inr (3, [.null, .null, .null, .null, .int 0, .int 0, .int 0, .int 0])), (q8, .inl (cI, 1280, .inl (fun _ => 0)))] H := hP
  have hD : va_D A [(h0, .inr (3, [.null, .null, .null, .null, .int 0, .int 0, .int 0, .int 0])), (q8, .inl (cI, 1280, .inl (fun _ => 0)))] := hD
  refine W.widen (k := 1) (n := 1280) (by omega) (by omega) ?_
  refine va_putF (D := D) (ci := 3) (v := .ref q8) (ty := .array .int) (C := RX3) (T := TX3) (N := 8) hx hb hts inX3 tyX3 tyX3_ok nmX3 hown hK hP hD hS 0 rfl rfl 2 (by decide) (hts _ tw_305) (fun _ h9 => h9) rfl hin rfl (by decide +kernel) rfl rfl (Nat.le_of_ble_eq_true rfl) dX3_init_10 (fun H locs hP hD hS => ?_)
  have hP : va_P D vwCl [(h0, .inr (3, [.null, .null, .ref q8, .null, .int 0, .int 0, .int 0, .int 0])), (q8, .inl (cI, 1280, .inl (fun _ => 0)))] H := hP
  have hD : va_D A [(h0, .inr (3, [.null, .null, .ref q8, .null, .int 0, .int 0, .int 0, .int 0])), (q8, .inl (cI, 1280, .inl (fun _ => 0)))] := hD
  refine lv_aload_n hx hb dX3_init_13 rfl (lv_at hl 0 rfl) ?_
  refine va_new (ci := 5) (fs := [.null]) (C := RX5) (T := TX5) (N := 1) hx hb hts inX5 tyX5 tyX5_ok hown (hts _ tw_301) (hts _ tw_189) (hts _ tw_43) hK hP hD hS hA rfl (fun j hj => by rcases (show j = 0 by omega) with rfl <;> rfl) (by decide) (by decide) dX3_init_14 (fun q14 H hP hD hS => ?_)
  have hP : va_P D vwCl [(h0, .inr (3, [.null, .null, .ref q8, .null, .int 0, .int 0, .int 0, .int 0])), (q8, .inl (cI, 1280, .inl (fun _ => 0))), (q14, .inr (5, [.null]))] H := hP
  have hD : va_D A [(h0, .inr (3, [.null, .null, .ref q8, .null, .int 0, .int 0, .int 0, .int 0])), (q8, .inl (cI, 1280, .inl (fun _ => 0))), (q14, .inr (5, [.null]))] := hD
  refine W.widen (k := 2) (n := 1281) (by omega) (by omega) ?_
  refine lv_dup hx hb dX3_init_17 rfl ?_
  have hPc := hP.sub (ws' := [(q14, .inr (5, [.null]))]) [2] rfl
  have hDc := hD.sub (ws' := [(q14, .inr (5, [.null]))]) [2] (by decide) rfl
  have hFc := va_free (wc := [(q14, .inr (5, [.null]))]) hD hS hA [2] rfl
  refine va_callv (va_runIN (As := []) (rest := [.ref q14, .ref h0]) ⟨hx, hb, hml, hown, hts⟩ (kn_X5 l cI cJ cZ q14 D H.size) ⟨va_cnB (Ts := gw) (ws' := gw) 0 hts (gw_pay hts tw_192) rfl rfl rfl hN.2.2.2.2 (hts _ tw_43) ⟨by decide, by decide, by decide +kernel⟩ ⟨by decide, by decide⟩, rfl, hts _ tw_191⟩ ⟨pn_blind, fun U hU hW => ⟨rfl, by rw [hU], by rw [hU]; exact hPc, va_K.moved hW.alike hK, nC.warm hW hN, hDc.weaken (fun _ _ _ _ => trivial)⟩⟩ rfl rfl hl.1 rfl (lv_room (Nat.le_of_ble_eq_true rfl)) dX3_init_18 ⟨by decide, by decide⟩) hS (fun q _ h => hFc q h) hFc (fun u t H1 locs ht hvm hw hB hz1 hk1 hS => ?_)
  obtain ⟨hP1, hD1⟩ := hB
  rw [ht] at hP1
  obtain ⟨w18_0, ew18_0⟩ : ∃ z, z = u 0 := ⟨_, rfl⟩
  have hP1 : va_P D vwCl [(q14, .inr (5, [.ref w18_0])), (w18_0, .inl (cJ, 256, .inr (.inl (fun _ => 0))))] H1 := by rw [ew18_0]; exact hP1
  have hD1 : va_D (va_A [(q14, .inr (5, [.null]))] H.size) [(q14, .inr (5, [.ref w18_0])), (w18_0, .inl (cJ, 256, .inr (.inl (fun _ => 0))))] := by rw [ew18_0]; exact hD1
  obtain ⟨hP, hD⟩ := va_join (wr := [(h0, .inr (3, [.null, .null, .ref q8, .null, .int 0, .int 0, .int 0, .int 0])), (q8, .inl (cI, 1280, .inl (fun _ => 0)))]) (w1 := [(q14, .inr (5, [.ref w18_0])), (w18_0, .inl (cJ, 256, .inr (.inl (fun _ => 0))))]) hP hD [2] [0, 1] rfl rfl (by decide) (by decide) hk1 hFc hP1 hD1
  generalize H1 = H at hP hS ⊢
  have hP : va_P D vwCl [(h0, .inr (3, [.null, .null, .ref q8, .null, .int 0, .int 0, .int 0, .int 0])), (q8, .inl (cI, 1280, .inl (fun _ => 0))), (q14, .inr (5, [.ref w18_0])), (w18_0, .inl (cJ, 256, .inr (.inl (fun _ => 0))))] H := hP
  have hD : va_D A [(h0, .inr (3, [.null, .null, .ref q8, .null, .int 0, .int 0, .int 0, .int 0])), (q8, .inl (cI, 1280, .inl (fun _ => 0))), (q14, .inr (5, [.ref w18_0])), (w18_0, .inl (cJ, 256, .inr (.inl (fun _ => 0))))] := hD
  refine W.widen (k := 3) (n := 1537) (by omega) (by omega) ?_
  refine va_putF (D := D) (ci := 3) (v := .ref q14) (ty := .object "LimitTrees$TreeBits") (C := RX3) (T := TX3) (N := 8) hx hb hts inX3 tyX3 tyX3_ok nmX3 hown hK hP hD hS 0 rfl rfl 3 (by decide) (hts _ tw_306) (fun _ h9 => h9) rfl hin rfl (by decide +kernel) rfl rfl (Nat.le_of_ble_eq_true rfl) dX3_init_21 (fun H locs hP hD hS => ?_)
  have hP : va_P D vwCl [(h0, .inr (3, [.null, .null, .ref q8, .ref q14, .int 0, .int 0, .int 0, .int 0])), (q8, .inl (cI, 1280, .inl (fun _ => 0))), (q14, .inr (5, [.ref w18_0])), (w18_0, .inl (cJ, 256, .inr (.inl (fun _ => 0))))] H := hP
  have hD : va_D A [(h0, .inr (3, [.null, .null, .ref q8, .ref q14, .int 0, .int 0, .int 0, .int 0])), (q8, .inl (cI, 1280, .inl (fun _ => 0))), (q14, .inr (5, [.ref w18_0])), (w18_0, .inl (cJ, 256, .inr (.inl (fun _ => 0))))] := hD
  refine lv_aload_n hx hb dX3_init_24 rfl (lv_at hl 0 rfl) ?_
  refine lv_iconst (v := (-1)) hx hb dX3_init_25 (by decide) ?_
  refine va_put (D := D) (ci := 3) (v := .int (-1)) (ty := .int) (C := RX3) (T := TX3) (N := 8) hx hb hts inX3 tyX3 tyX3_ok nmX3 hown hK hP hD hS 0 rfl rfl 4 (by decide) (hts _ tw_307) (fun _ h9 => h9) rfl (by decide +kernel) rfl rfl (Nat.le_of_ble_eq_true rfl) dX3_init_26 (fun H locs hP hD hS => ?_)
  have hP : va_P D vwCl [(h0, .inr (3, [.null, .null, .ref q8, .ref q14, .int (-1), .int 0, .int 0, .int 0])), (q8, .inl (cI, 1280, .inl (fun _ => 0))), (q14, .inr (5, [.ref w18_0])), (w18_0, .inl (cJ, 256, .inr (.inl (fun _ => 0))))] H := hP
  have hD : va_D A [(h0, .inr (3, [.null, .null, .ref q8, .ref q14, .int (-1), .int 0, .int 0, .int 0])), (q8, .inl (cI, 1280, .inl (fun _ => 0))), (q14, .inr (5, [.ref w18_0])), (w18_0, .inl (cJ, 256, .inr (.inl (fun _ => 0))))] := hD
  refine lv_aload_n hx hb dX3_init_29 rfl (lv_at hl 0 rfl) ?_
  refine lv_aload_n hx hb dX3_init_30 rfl (lv_at hl 1 rfl) ?_
  refine va_putF (D := D) (ci := 3) (v := .ref a1) (ty := .object "LimitTrees$TreeList") (C := RX3) (T := TX3) (N := 8) hx hb hts inX3 tyX3 tyX3_ok nmX3 hown hK hP hD hS 0 rfl rfl 0 (by decide) (hts _ tw_303) (fun _ h9 => h9) rfl hin rfl (by decide +kernel) rfl rfl (Nat.le_of_ble_eq_true rfl) dX3_init_31 (fun H locs hP hD hS => ?_)
  have hP : va_P D vwCl [(h0, .inr (3, [.ref a1, .null, .ref q8, .ref q14, .int (-1), .int 0, .int 0, .int 0])), (q8, .inl (cI, 1280, .inl (fun _ => 0))), (q14, .inr (5, [.ref w18_0])), (w18_0, .inl (cJ, 256, .inr (.inl (fun _ => 0))))] H := hP
  have hD : va_D A [(h0, .inr (3, [.ref a1, .null, .ref q8, .ref q14, .int (-1), .int 0, .int 0, .int 0])), (q8, .inl (cI, 1280, .inl (fun _ => 0))), (q14, .inr (5, [.ref w18_0])), (w18_0, .inl (cJ, 256, .inr (.inl (fun _ => 0))))] := hD
  refine lv_aload_n hx hb dX3_init_34 rfl (lv_at hl 0 rfl) ?_
  refine lv_aload_n hx hb dX3_init_35 rfl (lv_at hl 2 rfl) ?_
  refine va_putF (D := D) (ci := 3) (v := .ref a2) (ty := .object "LimitTrees$GoodTrees") (C := RX3) (T := TX3) (N := 8) hx hb hts inX3 tyX3 tyX3_ok nmX3 hown hK hP hD hS 0 rfl rfl 1 (by decide) (hts _ tw_304) (fun _ h9 => h9) rfl hin rfl (by decide +kernel) rfl rfl (Nat.le_of_ble_eq_true rfl) dX3_init_36 (fun H locs hP hD hS => ?_)
  have hP : va_P D vwCl [(h0, .inr (3, [.ref a1, .ref a2, .ref q8, .ref q14, .int (-1), .int 0, .int 0, .int 0])), (q8, .inl (cI, 1280, .inl (fun _ => 0))), (q14, .inr (5, [.ref w18_0])), (w18_0, .inl (cJ, 256, .inr (.inl (fun _ => 0))))] H := hP
  have hD : va_D A [(h0, .inr (3, [.ref a1, .ref a2, .ref q8, .ref q14, .int (-1), .int 0, .int 0, .int 0])), (q8, .inl (cI, 1280, .inl (fun _ => 0))), (q14, .inr (5, [.ref w18_0])), (w18_0, .inl (cJ, 256, .inr (.inl (fun _ => 0))))] := hD
  exact W.vret hx hb hr (fun t ht hW => ⟨⟨(fun k => ([q8, q14, w18_0] : List Nat).getD k 0), rfl, trivial, by rw [ht]; exact hP, hD⟩, hS.F ht⟩) hS.2.2 dX3_init_39 hlocks
