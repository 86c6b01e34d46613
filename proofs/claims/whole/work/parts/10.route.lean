/-! walks laid by program (gen.py, walk.py): 10.route -/
theorem dX3_forget_0 : decode cX3_forget 0 = .ok (.aload_n 0, 1) := by decide +kernel
theorem dX3_forget_1 : decode cX3_forget 1 = .ok (.iconst (-1), 1) := by decide +kernel
theorem dX3_forget_2 : decode cX3_forget 2 = .ok (.putfield 22, 3) := by decide +kernel
theorem dX3_forget_5 : decode cX3_forget 5 = .ok (.return_, 1) := by decide +kernel
def Rt_forget  (σ0 : St) : St := lt (si σ0 23 (-1)) (fun σ1 => σ1)
abbrev rm_Rt_forget : Room := { frames := 0, cells := 0, slots := 0, locals := 0 }
set_option maxHeartbeats 4000000 in
set_option maxRecDepth 100000 in
theorem k_Rt_forget (l : Launch) (ad : Nat → Nat) (cI cJ cZ : ClassId)  {σ0 : St} {τ : St} (hf : Rt_forget σ0 = τ) : CtV l yX3_forget (gws (.code yX3_forget cX3_forget 1 none)) (rm_Rt_forget) (ty3 cI cJ cZ) (xw ad cI cJ) [.ref (ad 7)] σ0 τ := by
  refine CtV.of (by decide) (xw_ok ad cI cJ) (Nat.le_of_ble_eq_true rfl) ?_
  generalize hav : ([.ref (ad 7)] : List Value) = av
  intro p e s m below meth c D A hC ls hl hP hS
  obtain ⟨hx, hb, hr, hlocks, hml, hown, hts, hK, hN, hD, hA⟩ := id hC
  rw [← hav] at hl
  have hl : lv_has ls 1 [(0, .ref (ad 7))] := hl
  unfold Rt_forget at hf
  obtain ⟨H, hH⟩ : ∃ z, z = s.heap := ⟨_, rfl⟩
  obtain ⟨locs, hlocs⟩ : ∃ z : List Loc, z = [] := ⟨_, rfl⟩
  rw [← hH] at hP
  have hS : va_S A s.heap H locs := by rw [hH, hlocs]; exact va_S.rf
  suffices hgoal : W p l e _ s m _ below meth c H locs 0 0 _ _ by rw [hH, hlocs] at hgoal; exact hgoal
  refine lv_aload_n hx hb dX3_forget_0 rfl (lv_at hl 0 rfl) ?_
  refine lv_iconst (v := (-1)) hx hb dX3_forget_1 (by decide) ?_
  refine xp_7_4 hC hP hS tw_307 dX3_forget_2 (fun H locs hP hS => ?_)
  obtain ⟨σ1, eσ1, hf⟩ := lt_e hf
  rw [← eσ1] at hP
  have h2 := hf
  exact retV hx hb hr hlocks hP hS h2 dX3_forget_5
theorem dX3_reach_0 : decode cX3_reach 0 = .ok (.aload_n 0, 1) := by decide +kernel
theorem dX3_reach_1 : decode cX3_reach 1 = .ok (.getfield 26, 3) := by decide +kernel
theorem dX3_reach_4 : decode cX3_reach 4 = .ok (.iload_n 1, 1) := by decide +kernel
theorem dX3_reach_5 : decode cX3_reach 5 = .ok (.invokevirtual 91, 3) := by decide +kernel
theorem dX3_reach_8 : decode cX3_reach 8 = .ok (.istore_n 2, 1) := by decide +kernel
theorem dX3_reach_9 : decode cX3_reach 9 = .ok (.iload_n 2, 1) := by decide +kernel
theorem dX3_reach_10 : decode cX3_reach 10 = .ok (.iconst (-1), 1) := by decide +kernel
theorem dX3_reach_11 : decode cX3_reach 11 = .ok (.if_icmp .eq 28, 3) := by decide +kernel
theorem dX3_reach_14 : decode cX3_reach 14 = .ok (.aload_n 0, 1) := by decide +kernel
theorem dX3_reach_15 : decode cX3_reach 15 = .ok (.getfield 9, 3) := by decide +kernel
theorem dX3_reach_18 : decode cX3_reach 18 = .ok (.iload_n 2, 1) := by decide +kernel
theorem dX3_reach_19 : decode cX3_reach 19 = .ok (.aload_n 0, 1) := by decide +kernel
theorem dX3_reach_20 : decode cX3_reach 20 = .ok (.getfield 42, 3) := by decide +kernel
theorem dX3_reach_23 : decode cX3_reach 23 = .ok (.iconst 1, 1) := by decide +kernel
theorem dX3_reach_24 : decode cX3_reach 24 = .ok (.iadd, 1) := by decide +kernel
theorem dX3_reach_25 : decode cX3_reach 25 = .ok (.iastore, 1) := by decide +kernel
theorem dX3_reach_26 : decode cX3_reach 26 = .ok (.aload_n 0, 1) := by decide +kernel
theorem dX3_reach_27 : decode cX3_reach 27 = .ok (.getfield 18, 3) := by decide +kernel
theorem dX3_reach_30 : decode cX3_reach 30 = .ok (.iload_n 1, 1) := by decide +kernel
theorem dX3_reach_31 : decode cX3_reach 31 = .ok (.invokevirtual 78, 3) := by decide +kernel
theorem dX3_reach_34 : decode cX3_reach 34 = .ok (.aload_n 0, 1) := by decide +kernel
theorem dX3_reach_35 : decode cX3_reach 35 = .ok (.iconst 1, 1) := by decide +kernel
theorem dX3_reach_36 : decode cX3_reach 36 = .ok (.putfield 38, 3) := by decide +kernel
theorem dX3_reach_39 : decode cX3_reach 39 = .ok (.return_, 1) := by decide +kernel
def Rt_reach (N : Nat) (x1 : Int32) (σ0 : St) : Option (St) := bnd (TL_placeOf N x1 σ0) (fun y1 => if y1 = (-1) then some σ0 else grd (inb y1 1280) (lt (sa σ0 17 (y1).toNatClampNeg ((σ0.1 25) + 1)) (fun σ4 => bnd (Un_drop N x1 σ4) (fun σ5 => lt (si σ5 26 1) (fun σ6 => some σ6)))))
abbrev rm_Rt_reach : Room := { frames := 3, cells := 0, slots := 0, locals := 63 }
set_option maxHeartbeats 4000000 in
set_option maxRecDepth 100000 in
theorem k_Rt_reach (l : Launch) (ad : Nat → Nat) (cI cJ cZ : ClassId) {N : Nat} {x1 : Int32} {σ0 : St} {τ : St} (hf : Rt_reach N x1 σ0 = some τ) : CtV l yX3_reach (gws (.code yX3_reach cX3_reach 3 none)) (rm_Rt_reach) (ty3 cI cJ cZ) (xw ad cI cJ) [.ref (ad 7), .int x1] σ0 τ := by
  refine CtV.of (by decide) (xw_ok ad cI cJ) (Nat.le_of_ble_eq_true rfl) ?_
  generalize hav : ([.ref (ad 7), .int x1] : List Value) = av
  intro p e s m below meth c D A hC ls hl hP hS
  obtain ⟨hx, hb, hr, hlocks, hml, hown, hts, hK, hN, hD, hA⟩ := id hC
  rw [← hav] at hl
  have hl : lv_has ls 3 [(0, .ref (ad 7)), (1, .int x1)] := hl
  unfold Rt_reach at hf
  obtain ⟨H, hH⟩ : ∃ z, z = s.heap := ⟨_, rfl⟩
  obtain ⟨locs, hlocs⟩ : ∃ z : List Loc, z = [] := ⟨_, rfl⟩
  rw [← hH] at hP
  have hS : va_S A s.heap H locs := by rw [hH, hlocs]; exact va_S.rf
  suffices hgoal : W p l e _ s m _ below meth c H locs 0 0 _ _ by rw [hH, hlocs] at hgoal; exact hgoal
  refine lv_aload_n hx hb dX3_reach_0 rfl (lv_at hl 0 rfl) ?_
  refine xg_7_0 hC hP tw_303 dX3_reach_1 ?_
  refine lv_iload_n hx hb dX3_reach_4 rfl (lv_at hl 1 rfl) ?_
  obtain ⟨y1, hcy1, hf⟩ := bnd_some hf
  refine cVi (As := [.int x1]) (rest := []) hC (k_TL_placeOf l ad cI cJ cZ hcy1) yy_X6_placeOf tw_678 rfl rfl ⟨by decide, by decide⟩ hP hS (q0 := 4) (ci := 6) rfl rfl (xwa_4 ..) rfl hl.1 rfl (Nat.le_of_ble_eq_true rfl) dX3_reach_5 (fun H locs hP hS => ?_)
  refine lv_istore_n (lv' := [(2, .int y1), (0, .ref (ad 7)), (1, .int x1)]) hx hb dX3_reach_8 rfl hl (by decide) rfl (fun ls hl => ?_)
  refine lv_iload_n hx hb dX3_reach_9 rfl (lv_at hl 0 rfl) ?_
  refine lv_iconst (v := (-1)) hx hb dX3_reach_10 (by decide) ?_
  refine lv_icmp_eq (tgt := 39) hx hb dX3_reach_11 (by decide) (fun c2 => ?_) (fun c2 => ?_)
  · rw [if_pos c2] at hf
    have h2 := Option.some.inj hf
    exact retV hx hb hr hlocks hP hS h2 dX3_reach_39
  rw [if_neg c2] at hf
  refine lv_aload_n hx hb dX3_reach_14 rfl (lv_at hl 1 rfl) ?_
  refine xg_7_2 hC hP tw_305 dX3_reach_15 ?_
  refine lv_iload_n hx hb dX3_reach_18 rfl (lv_at hl 0 rfl) ?_
  refine lv_aload_n hx hb dX3_reach_19 rfl (lv_at hl 1 rfl) ?_
  refine xg_7_6 hC hP tw_309 dX3_reach_20 ?_
  refine lv_iconst (v := 1) hx hb dX3_reach_23 (by decide) ?_
  refine lv_iadd hx hb dX3_reach_24 ?_
  obtain ⟨g3, hf⟩ := grd_some hf
  refine xs_26 hC hP hS g3 dX3_reach_25 (fun H locs hP hS => ?_)
  obtain ⟨σ4, eσ4, hf⟩ := lt_e hf
  rw [← eσ4] at hP
  refine lv_aload_n hx hb dX3_reach_26 rfl (lv_at hl 1 rfl) ?_
  refine xg_7_3 hC hP tw_306 dX3_reach_27 ?_
  refine lv_iload_n hx hb dX3_reach_30 rfl (lv_at hl 2 rfl) ?_
  obtain ⟨σ5, hcσ5, hf⟩ := bnd_some hf
  refine cVv (As := [.int x1]) (rest := []) hC (k_Un_drop l ad cI cJ cZ hcσ5) yy_X5_drop tw_660 rfl rfl ⟨by decide, by decide⟩ hP hS (q0 := 8) (ci := 5) rfl rfl (xwa_8 ..) rfl hl.1 rfl (Nat.le_of_ble_eq_true rfl) dX3_reach_31 (fun H locs hP hS => ?_)
  refine lv_aload_n hx hb dX3_reach_34 rfl (lv_at hl 1 rfl) ?_
  refine lv_iconst (v := 1) hx hb dX3_reach_35 (by decide) ?_
  refine xp_7_7 hC hP hS (by first | exact Or.inl rfl | exact Or.inr rfl) tw_310 dX3_reach_36 (fun H locs hP hS => ?_)
  obtain ⟨σ6, eσ6, hf⟩ := lt_e hf
  rw [← eσ6] at hP
  have h2 := Option.some.inj hf
  exact retV hx hb hr hlocks hP hS h2 dX3_reach_39
theorem dX3_spread_0 : decode cX3_spread 0 = .ok (.iload_n 1, 1) := by decide +kernel
theorem dX3_spread_1 : decode cX3_spread 1 = .ok (.istore_n 2, 1) := by decide +kernel
theorem dX3_spread_2 : decode cX3_spread 2 = .ok (.iload_n 2, 1) := by decide +kernel
theorem dX3_spread_3 : decode cX3_spread 3 = .ok (.ifCond .eq 74, 3) := by decide +kernel
theorem dX3_spread_6 : decode cX3_spread 6 = .ok (.iload_n 1, 1) := by decide +kernel
theorem dX3_spread_7 : decode cX3_spread 7 = .ok (.iload_n 2, 1) := by decide +kernel
theorem dX3_spread_8 : decode cX3_spread 8 = .ok (.iload_n 2, 1) := by decide +kernel
theorem dX3_spread_9 : decode cX3_spread 9 = .ok (.ineg, 1) := by decide +kernel
theorem dX3_spread_10 : decode cX3_spread 10 = .ok (.iand, 1) := by decide +kernel
theorem dX3_spread_11 : decode cX3_spread 11 = .ok (.ixor, 1) := by decide +kernel
theorem dX3_spread_12 : decode cX3_spread 12 = .ok (.istore_n 3, 1) := by decide +kernel
theorem dX3_spread_13 : decode cX3_spread 13 = .ok (.aload_n 0, 1) := by decide +kernel
theorem dX3_spread_14 : decode cX3_spread 14 = .ok (.getfield 61, 3) := by decide +kernel
theorem dX3_spread_17 : decode cX3_spread 17 = .ok (.iload_n 1, 1) := by decide +kernel
theorem dX3_spread_18 : decode cX3_spread 18 = .ok (.iconst (-1), 1) := by decide +kernel
theorem dX3_spread_19 : decode cX3_spread 19 = .ok (.ixor, 1) := by decide +kernel
theorem dX3_spread_20 : decode cX3_spread 20 = .ok (.iand, 1) := by decide +kernel
theorem dX3_spread_21 : decode cX3_spread 21 = .ok (.istore 4, 2) := by decide +kernel
theorem dX3_spread_23 : decode cX3_spread 23 = .ok (.iload 4, 2) := by decide +kernel
theorem dX3_spread_25 : decode cX3_spread 25 = .ok (.ifCond .eq 43, 3) := by decide +kernel
theorem dX3_spread_28 : decode cX3_spread 28 = .ok (.iload_n 3, 1) := by decide +kernel
theorem dX3_spread_29 : decode cX3_spread 29 = .ok (.iload 4, 2) := by decide +kernel
theorem dX3_spread_31 : decode cX3_spread 31 = .ok (.iload 4, 2) := by decide +kernel
theorem dX3_spread_33 : decode cX3_spread 33 = .ok (.ineg, 1) := by decide +kernel
theorem dX3_spread_34 : decode cX3_spread 34 = .ok (.iand, 1) := by decide +kernel
theorem dX3_spread_35 : decode cX3_spread 35 = .ok (.ior, 1) := by decide +kernel
theorem dX3_spread_36 : decode cX3_spread 36 = .ok (.istore 5, 2) := by decide +kernel
theorem dX3_spread_38 : decode cX3_spread 38 = .ok (.aload_n 0, 1) := by decide +kernel
theorem dX3_spread_39 : decode cX3_spread 39 = .ok (.getfield 18, 3) := by decide +kernel
theorem dX3_spread_42 : decode cX3_spread 42 = .ok (.iload 5, 2) := by decide +kernel
theorem dX3_spread_44 : decode cX3_spread 44 = .ok (.invokevirtual 84, 3) := by decide +kernel
theorem dX3_spread_47 : decode cX3_spread 47 = .ok (.ifCond .eq 9, 3) := by decide +kernel
theorem dX3_spread_50 : decode cX3_spread 50 = .ok (.aload_n 0, 1) := by decide +kernel
theorem dX3_spread_51 : decode cX3_spread 51 = .ok (.iload 5, 2) := by decide +kernel
theorem dX3_spread_53 : decode cX3_spread 53 = .ok (.invokevirtual 88, 3) := by decide +kernel
theorem dX3_spread_56 : decode cX3_spread 56 = .ok (.iload 4, 2) := by decide +kernel
theorem dX3_spread_58 : decode cX3_spread 58 = .ok (.iload 4, 2) := by decide +kernel
theorem dX3_spread_60 : decode cX3_spread 60 = .ok (.iconst 1, 1) := by decide +kernel
theorem dX3_spread_61 : decode cX3_spread 61 = .ok (.isub, 1) := by decide +kernel
theorem dX3_spread_62 : decode cX3_spread 62 = .ok (.iand, 1) := by decide +kernel
theorem dX3_spread_63 : decode cX3_spread 63 = .ok (.istore 4, 2) := by decide +kernel
theorem dX3_spread_65 : decode cX3_spread 65 = .ok (.goto (-42), 3) := by decide +kernel
theorem dX3_spread_68 : decode cX3_spread 68 = .ok (.iload_n 2, 1) := by decide +kernel
theorem dX3_spread_69 : decode cX3_spread 69 = .ok (.iload_n 2, 1) := by decide +kernel
theorem dX3_spread_70 : decode cX3_spread 70 = .ok (.iconst 1, 1) := by decide +kernel
theorem dX3_spread_71 : decode cX3_spread 71 = .ok (.isub, 1) := by decide +kernel
theorem dX3_spread_72 : decode cX3_spread 72 = .ok (.iand, 1) := by decide +kernel
theorem dX3_spread_73 : decode cX3_spread 73 = .ok (.istore_n 2, 1) := by decide +kernel
theorem dX3_spread_74 : decode cX3_spread 74 = .ok (.goto (-72), 3) := by decide +kernel
theorem dX3_spread_77 : decode cX3_spread 77 = .ok (.return_, 1) := by decide +kernel
def Rt_spread_23 (N : Nat) (k_68 : Int32 → Int32 → St → Option (St)) : Nat → Int32 → Int32 → Int32 → Int32 → St → Option (St)
  | 0, _, _, _, _, _ => none
  | n + 1, x1, x2, x3, x4, σ => if x4 = 0 then k_68 x1 x2 σ else bnd (Un_has N (x3 ||| (x4 &&& (-x4))) σ) (fun y2 => if y2 = 0 then Rt_spread_23 N k_68 n x1 x2 x3 (x4 &&& (x4 - 1)) σ else bnd (Rt_reach N (x3 ||| (x4 &&& (-x4))) σ) (fun σ4 => Rt_spread_23 N k_68 n x1 x2 x3 (x4 &&& (x4 - 1)) σ4))
theorem Rt_spread_23_s (N : Nat) (k_68 : Int32 → Int32 → St → Option (St)) (n : Nat) (x1 : Int32) (x2 : Int32) (x3 : Int32) (x4 : Int32) (σ : St) : Rt_spread_23 N k_68 (n + 1) x1 x2 x3 x4 σ = if x4 = 0 then k_68 x1 x2 σ else bnd (Un_has N (x3 ||| (x4 &&& (-x4))) σ) (fun y2 => if y2 = 0 then Rt_spread_23 N k_68 n x1 x2 x3 (x4 &&& (x4 - 1)) σ else bnd (Rt_reach N (x3 ||| (x4 &&& (-x4))) σ) (fun σ4 => Rt_spread_23 N k_68 n x1 x2 x3 (x4 &&& (x4 - 1)) σ4)) := rfl
def Rt_spread_68 (N : Nat) (k_2 : Int32 → Int32 → St → Option (St)) (x1 : Int32) (x2 : Int32) (σ : St) : Option (St) := k_2 x1 (x2 &&& (x2 - 1)) σ
def Rt_spread_2 (N : Nat) : Nat → Int32 → Int32 → St → Option (St)
  | 0, _, _, _ => none
  | n + 1, x1, x2, σ => if x2 = 0 then some σ else Rt_spread_23 N (Rt_spread_68 N (Rt_spread_2 N n)) N x1 x2 (x1 ^^^ (x2 &&& (-x2))) ((σ.1 24) &&& (x1 ^^^ (-1))) σ
theorem Rt_spread_2_s (N : Nat) (n : Nat) (x1 : Int32) (x2 : Int32) (σ : St) : Rt_spread_2 N (n + 1) x1 x2 σ = if x2 = 0 then some σ else Rt_spread_23 N (Rt_spread_68 N (Rt_spread_2 N n)) N x1 x2 (x1 ^^^ (x2 &&& (-x2))) ((σ.1 24) &&& (x1 ^^^ (-1))) σ := rfl
def Rt_spread (N : Nat) (x1 : Int32) (σ0 : St) : Option (St) := Rt_spread_2 N N x1 x1 σ0
abbrev rm_Rt_spread : Room := { frames := 4, cells := 0, slots := 0, locals := 85 }
set_option maxHeartbeats 4000000 in
set_option maxRecDepth 100000 in
theorem k_Rt_spread (l : Launch) (ad : Nat → Nat) (cI cJ cZ : ClassId) {N : Nat} {x1 : Int32} {σ0 : St} {τ : St} (hf : Rt_spread N x1 σ0 = some τ) : CtV l yX3_spread (gws (.code yX3_spread cX3_spread 6 none)) (rm_Rt_spread) (ty3 cI cJ cZ) (xw ad cI cJ) [.ref (ad 7), .int x1] σ0 τ := by
  refine CtV.of (by decide) (xw_ok ad cI cJ) (Nat.le_of_ble_eq_true rfl) ?_
  generalize hav : ([.ref (ad 7), .int x1] : List Value) = av
  intro p e s m below meth c D A hC ls hl hP hS
  obtain ⟨hx, hb, hr, hlocks, hml, hown, hts, hK, hN, hD, hA⟩ := id hC
  rw [← hav] at hl
  have hl : lv_has ls 6 [(0, .ref (ad 7)), (1, .int x1)] := hl
  unfold Rt_spread at hf
  have hw_23 : ∀ (k_68 : Int32 → Int32 → St → Option (St)) (hk_68 : ∀ (x1 : Int32) (x2 : Int32) (σ : St) (H : Heap) (locs : List Loc) (ls : Array Slot), va_P D vwCl ((xw ad cI cJ) σ) H → va_S A s.heap H locs → lv_has ls 6 [(0, .ref (ad 7)), (1, .int x1), (2, .int x2)] → k_68 x1 x2 σ = some τ → W p l e (rm_Rt_spread) s m av.toArray below meth c H locs 0 0 (QV below av.toArray s D A (xw ad cI cJ) τ) (F0 m 68 ls [])), ∀ (n : Nat), ∀ (x1 : Int32) (x2 : Int32) (x3 : Int32) (x4 : Int32) (σ : St) (H : Heap) (locs : List Loc) (ls : Array Slot), va_P D vwCl ((xw ad cI cJ) σ) H → va_S A s.heap H locs → lv_has ls 6 [(0, .ref (ad 7)), (1, .int x1), (2, .int x2), (3, .int x3), (4, .int x4)] → Rt_spread_23 N k_68 n x1 x2 x3 x4 σ = some τ → W p l e (rm_Rt_spread) s m av.toArray below meth c H locs 0 0 (QV below av.toArray s D A (xw ad cI cJ) τ) (F0 m 23 ls []) := by
    intro k_68 hk_68
    intro n
    induction n with
    | zero =>
      intro x1 x2 x3 x4 σ H locs ls hP hS hl hf
      cases hf
    | succ n ih =>
      intro x1 x2 x3 x4 σ H locs ls hP hS hl hf
      rw [Rt_spread_23_s] at hf
      refine lv_iload hx hb dX3_spread_23 (lv_at hl 4 rfl) ?_
      refine lv_if_eq (tgt := 68) hx hb dX3_spread_25 (by decide) (fun c1 => ?_) (fun c1 => ?_)
      · rw [if_pos c1] at hf
        exact hk_68 x1 x2 σ H locs ls hP hS (lv_sub hl [0, 1, 2] rfl) hf
      rw [if_neg c1] at hf
      refine lv_iload_n hx hb dX3_spread_28 rfl (lv_at hl 3 rfl) ?_
      refine lv_iload hx hb dX3_spread_29 (lv_at hl 4 rfl) ?_
      refine lv_iload hx hb dX3_spread_31 (lv_at hl 4 rfl) ?_
      refine lv_ineg hx hb dX3_spread_33 ?_
      refine lv_iand hx hb dX3_spread_34 ?_
      refine lv_ior hx hb dX3_spread_35 ?_
      refine lv_istore (lv' := [(5, .int (x3 ||| (x4 &&& (-x4)))), (0, .ref (ad 7)), (1, .int x1), (2, .int x2), (3, .int x3), (4, .int x4)]) hx hb dX3_spread_36 hl (by decide) rfl (fun ls hl => ?_)
      refine lv_aload_n hx hb dX3_spread_38 rfl (lv_at hl 1 rfl) ?_
      refine xg_7_3 hC hP tw_306 dX3_spread_39 ?_
      refine lv_iload hx hb dX3_spread_42 (lv_at hl 0 rfl) ?_
      obtain ⟨y2, hcy2, hf⟩ := bnd_some hf
      refine cVi (As := [.int (x3 ||| (x4 &&& (-x4)))]) (rest := []) hC (k_Un_has l ad cI cJ cZ hcy2) yy_X5_has tw_673 rfl rfl ⟨by decide, by decide⟩ hP hS (q0 := 8) (ci := 5) rfl rfl (xwa_8 ..) rfl hl.1 rfl (Nat.le_of_ble_eq_true rfl) dX3_spread_44 (fun H locs hP hS => ?_)
      refine lv_if_eq (tgt := 56) hx hb dX3_spread_47 (by decide) (fun c3 => ?_) (fun c3 => ?_)
      · rw [if_pos c3] at hf
        refine lv_iload hx hb dX3_spread_56 (lv_at hl 5 rfl) ?_
        refine lv_iload hx hb dX3_spread_58 (lv_at hl 5 rfl) ?_
        refine lv_iconst (v := 1) hx hb dX3_spread_60 (by decide) ?_
        refine lv_isub hx hb dX3_spread_61 ?_
        refine lv_iand hx hb dX3_spread_62 ?_
        refine lv_istore (lv' := [(4, .int (x4 &&& (x4 - 1))), (5, .int (x3 ||| (x4 &&& (-x4)))), (0, .ref (ad 7)), (1, .int x1), (2, .int x2), (3, .int x3)]) hx hb dX3_spread_63 hl (by decide) rfl (fun ls hl => ?_)
        refine lv_goto (tgt := 23) hx hb dX3_spread_65 (by decide) ?_
        exact ih x1 x2 x3 (x4 &&& (x4 - 1)) σ H locs ls hP hS (lv_sub hl [2, 3, 4, 5, 0] rfl) hf
      rw [if_neg c3] at hf
      refine lv_aload_n hx hb dX3_spread_50 rfl (lv_at hl 1 rfl) ?_
      refine lv_iload hx hb dX3_spread_51 (lv_at hl 0 rfl) ?_
      obtain ⟨σ4, hcσ4, hf⟩ := bnd_some hf
      refine cVv (As := [.int (x3 ||| (x4 &&& (-x4)))]) (rest := []) hC (k_Rt_reach l ad cI cJ cZ hcσ4) yy_X3_reach tw_674 rfl rfl ⟨by decide, by decide⟩ hP hS (q0 := 7) (ci := 3) rfl rfl (xwa_7 ..) rfl hl.1 rfl (Nat.le_of_ble_eq_true rfl) dX3_spread_53 (fun H locs hP hS => ?_)
      refine lv_iload hx hb dX3_spread_56 (lv_at hl 5 rfl) ?_
      refine lv_iload hx hb dX3_spread_58 (lv_at hl 5 rfl) ?_
      refine lv_iconst (v := 1) hx hb dX3_spread_60 (by decide) ?_
      refine lv_isub hx hb dX3_spread_61 ?_
      refine lv_iand hx hb dX3_spread_62 ?_
      refine lv_istore (lv' := [(4, .int (x4 &&& (x4 - 1))), (5, .int (x3 ||| (x4 &&& (-x4)))), (0, .ref (ad 7)), (1, .int x1), (2, .int x2), (3, .int x3)]) hx hb dX3_spread_63 hl (by decide) rfl (fun ls hl => ?_)
      refine lv_goto (tgt := 23) hx hb dX3_spread_65 (by decide) ?_
      exact ih x1 x2 x3 (x4 &&& (x4 - 1)) σ4 H locs ls hP hS (lv_sub hl [2, 3, 4, 5, 0] rfl) hf
  have hw_68 : ∀ (k_2 : Int32 → Int32 → St → Option (St)) (hk_2 : ∀ (x1 : Int32) (x2 : Int32) (σ : St) (H : Heap) (locs : List Loc) (ls : Array Slot), va_P D vwCl ((xw ad cI cJ) σ) H → va_S A s.heap H locs → lv_has ls 6 [(0, .ref (ad 7)), (1, .int x1), (2, .int x2)] → k_2 x1 x2 σ = some τ → W p l e (rm_Rt_spread) s m av.toArray below meth c H locs 0 0 (QV below av.toArray s D A (xw ad cI cJ) τ) (F0 m 2 ls [])), ∀ (x1 : Int32) (x2 : Int32) (σ : St) (H : Heap) (locs : List Loc) (ls : Array Slot), va_P D vwCl ((xw ad cI cJ) σ) H → va_S A s.heap H locs → lv_has ls 6 [(0, .ref (ad 7)), (1, .int x1), (2, .int x2)] → Rt_spread_68 N k_2 x1 x2 σ = some τ → W p l e (rm_Rt_spread) s m av.toArray below meth c H locs 0 0 (QV below av.toArray s D A (xw ad cI cJ) τ) (F0 m 68 ls []) := by
    intro k_2 hk_2 x1 x2 σ H locs ls hP hS hl hf
    unfold Rt_spread_68 at hf
    refine lv_iload_n hx hb dX3_spread_68 rfl (lv_at hl 2 rfl) ?_
    refine lv_iload_n hx hb dX3_spread_69 rfl (lv_at hl 2 rfl) ?_
    refine lv_iconst (v := 1) hx hb dX3_spread_70 (by decide) ?_
    refine lv_isub hx hb dX3_spread_71 ?_
    refine lv_iand hx hb dX3_spread_72 ?_
    refine lv_istore_n (lv' := [(2, .int (x2 &&& (x2 - 1))), (0, .ref (ad 7)), (1, .int x1)]) hx hb dX3_spread_73 rfl hl (by decide) rfl (fun ls hl => ?_)
    refine lv_goto (tgt := 2) hx hb dX3_spread_74 (by decide) ?_
    exact hk_2 x1 (x2 &&& (x2 - 1)) σ H locs ls hP hS (lv_sub hl [1, 2, 0] rfl) hf
  have hw_2 : ∀ (n : Nat), ∀ (x1 : Int32) (x2 : Int32) (σ : St) (H : Heap) (locs : List Loc) (ls : Array Slot), va_P D vwCl ((xw ad cI cJ) σ) H → va_S A s.heap H locs → lv_has ls 6 [(0, .ref (ad 7)), (1, .int x1), (2, .int x2)] → Rt_spread_2 N n x1 x2 σ = some τ → W p l e (rm_Rt_spread) s m av.toArray below meth c H locs 0 0 (QV below av.toArray s D A (xw ad cI cJ) τ) (F0 m 2 ls []) := by
    intro n
    induction n with
    | zero =>
      intro x1 x2 σ H locs ls hP hS hl hf
      cases hf
    | succ n ih =>
      intro x1 x2 σ H locs ls hP hS hl hf
      rw [Rt_spread_2_s] at hf
      refine lv_iload_n hx hb dX3_spread_2 rfl (lv_at hl 2 rfl) ?_
      refine lv_if_eq (tgt := 77) hx hb dX3_spread_3 (by decide) (fun c5 => ?_) (fun c5 => ?_)
      · rw [if_pos c5] at hf
        have h2 := Option.some.inj hf
        exact retV hx hb hr hlocks hP hS h2 dX3_spread_77
      rw [if_neg c5] at hf
      refine lv_iload_n hx hb dX3_spread_6 rfl (lv_at hl 1 rfl) ?_
      refine lv_iload_n hx hb dX3_spread_7 rfl (lv_at hl 2 rfl) ?_
      refine lv_iload_n hx hb dX3_spread_8 rfl (lv_at hl 2 rfl) ?_
      refine lv_ineg hx hb dX3_spread_9 ?_
      refine lv_iand hx hb dX3_spread_10 ?_
      refine lv_ixor hx hb dX3_spread_11 ?_
      refine lv_istore_n (lv' := [(3, .int (x1 ^^^ (x2 &&& (-x2)))), (0, .ref (ad 7)), (1, .int x1), (2, .int x2)]) hx hb dX3_spread_12 rfl hl (by decide) rfl (fun ls hl => ?_)
      refine lv_aload_n hx hb dX3_spread_13 rfl (lv_at hl 1 rfl) ?_
      refine xg_7_5 hC hP tw_308 dX3_spread_14 ?_
      refine lv_iload_n hx hb dX3_spread_17 rfl (lv_at hl 2 rfl) ?_
      refine lv_iconst (v := (-1)) hx hb dX3_spread_18 (by decide) ?_
      refine lv_ixor hx hb dX3_spread_19 ?_
      refine lv_iand hx hb dX3_spread_20 ?_
      refine lv_istore (lv' := [(4, .int ((σ.1 24) &&& (x1 ^^^ (-1)))), (3, .int (x1 ^^^ (x2 &&& (-x2)))), (0, .ref (ad 7)), (1, .int x1), (2, .int x2)]) hx hb dX3_spread_21 hl (by decide) rfl (fun ls hl => ?_)
      exact hw_23 (Rt_spread_68 N (Rt_spread_2 N n)) (hw_68 (Rt_spread_2 N n) ih) N x1 x2 (x1 ^^^ (x2 &&& (-x2))) ((σ.1 24) &&& (x1 ^^^ (-1))) σ H locs ls hP hS (lv_sub hl [2, 3, 4, 1, 0] rfl) hf
  obtain ⟨H, hH⟩ : ∃ z, z = s.heap := ⟨_, rfl⟩
  obtain ⟨locs, hlocs⟩ : ∃ z : List Loc, z = [] := ⟨_, rfl⟩
  rw [← hH] at hP
  have hS : va_S A s.heap H locs := by rw [hH, hlocs]; exact va_S.rf
  suffices hgoal : W p l e _ s m _ below meth c H locs 0 0 _ _ by rw [hH, hlocs] at hgoal; exact hgoal
  refine lv_iload_n hx hb dX3_spread_0 rfl (lv_at hl 1 rfl) ?_
  refine lv_istore_n (lv' := [(2, .int x1), (0, .ref (ad 7)), (1, .int x1)]) hx hb dX3_spread_1 rfl hl (by decide) rfl (fun ls hl => ?_)
  exact hw_2 N x1 x1 σ0 H locs ls hP hS (lv_sub hl [1, 2, 0] rfl) hf
theorem dX3_spreadLayer_0 : decode cX3_spreadLayer 0 = .ok (.aload_n 0, 1) := by decide +kernel
theorem dX3_spreadLayer_1 : decode cX3_spreadLayer 1 = .ok (.iconst 0, 1) := by decide +kernel
theorem dX3_spreadLayer_2 : decode cX3_spreadLayer 2 = .ok (.putfield 38, 3) := by decide +kernel
theorem dX3_spreadLayer_5 : decode cX3_spreadLayer 5 = .ok (.iconst 0, 1) := by decide +kernel
theorem dX3_spreadLayer_6 : decode cX3_spreadLayer 6 = .ok (.istore_n 1, 1) := by decide +kernel
theorem dX3_spreadLayer_7 : decode cX3_spreadLayer 7 = .ok (.iload_n 1, 1) := by decide +kernel
theorem dX3_spreadLayer_8 : decode cX3_spreadLayer 8 = .ok (.aload_n 0, 1) := by decide +kernel
theorem dX3_spreadLayer_9 : decode cX3_spreadLayer 9 = .ok (.getfield 30, 3) := by decide +kernel
theorem dX3_spreadLayer_12 : decode cX3_spreadLayer 12 = .ok (.getfield 67, 3) := by decide +kernel
theorem dX3_spreadLayer_15 : decode cX3_spreadLayer 15 = .ok (.if_icmp .ge 51, 3) := by decide +kernel
theorem dX3_spreadLayer_18 : decode cX3_spreadLayer 18 = .ok (.aload_n 0, 1) := by decide +kernel
theorem dX3_spreadLayer_19 : decode cX3_spreadLayer 19 = .ok (.getfield 9, 3) := by decide +kernel
theorem dX3_spreadLayer_22 : decode cX3_spreadLayer 22 = .ok (.aload_n 0, 1) := by decide +kernel
theorem dX3_spreadLayer_23 : decode cX3_spreadLayer 23 = .ok (.getfield 30, 3) := by decide +kernel
theorem dX3_spreadLayer_26 : decode cX3_spreadLayer 26 = .ok (.getfield 72, 3) := by decide +kernel
theorem dX3_spreadLayer_29 : decode cX3_spreadLayer 29 = .ok (.iload_n 1, 1) := by decide +kernel
theorem dX3_spreadLayer_30 : decode cX3_spreadLayer 30 = .ok (.iaload, 1) := by decide +kernel
theorem dX3_spreadLayer_31 : decode cX3_spreadLayer 31 = .ok (.iaload, 1) := by decide +kernel
theorem dX3_spreadLayer_32 : decode cX3_spreadLayer 32 = .ok (.aload_n 0, 1) := by decide +kernel
theorem dX3_spreadLayer_33 : decode cX3_spreadLayer 33 = .ok (.getfield 42, 3) := by decide +kernel
theorem dX3_spreadLayer_36 : decode cX3_spreadLayer 36 = .ok (.if_icmp .ne 24, 3) := by decide +kernel
theorem dX3_spreadLayer_39 : decode cX3_spreadLayer 39 = .ok (.aload_n 0, 1) := by decide +kernel
theorem dX3_spreadLayer_40 : decode cX3_spreadLayer 40 = .ok (.aload_n 0, 1) := by decide +kernel
theorem dX3_spreadLayer_41 : decode cX3_spreadLayer 41 = .ok (.getfield 26, 3) := by decide +kernel
theorem dX3_spreadLayer_44 : decode cX3_spreadLayer 44 = .ok (.getfield 56, 3) := by decide +kernel
theorem dX3_spreadLayer_47 : decode cX3_spreadLayer 47 = .ok (.aload_n 0, 1) := by decide +kernel
theorem dX3_spreadLayer_48 : decode cX3_spreadLayer 48 = .ok (.getfield 30, 3) := by decide +kernel
theorem dX3_spreadLayer_51 : decode cX3_spreadLayer 51 = .ok (.getfield 72, 3) := by decide +kernel
theorem dX3_spreadLayer_54 : decode cX3_spreadLayer 54 = .ok (.iload_n 1, 1) := by decide +kernel
theorem dX3_spreadLayer_55 : decode cX3_spreadLayer 55 = .ok (.iaload, 1) := by decide +kernel
theorem dX3_spreadLayer_56 : decode cX3_spreadLayer 56 = .ok (.iaload, 1) := by decide +kernel
theorem dX3_spreadLayer_57 : decode cX3_spreadLayer 57 = .ok (.invokevirtual 81, 3) := by decide +kernel
theorem dX3_spreadLayer_60 : decode cX3_spreadLayer 60 = .ok (.iinc 1 1, 3) := by decide +kernel
theorem dX3_spreadLayer_63 : decode cX3_spreadLayer 63 = .ok (.goto (-56), 3) := by decide +kernel
theorem dX3_spreadLayer_66 : decode cX3_spreadLayer 66 = .ok (.return_, 1) := by decide +kernel
def Rt_spreadLayer_7 (N : Nat) : Nat → Int32 → St → Option (St)
  | 0, _, _ => none
  | n + 1, x1, σ => if (σ.1 18) ≤ x1 then some σ else grd (inb x1 1280) (grd (inb (σ.2.1 13 (x1).toNatClampNeg) 1280) (if (σ.2.1 17 ((σ.2.1 13 (x1).toNatClampNeg)).toNatClampNeg) = (σ.1 25) then grd (inb x1 1280) (grd (inb (σ.2.1 13 (x1).toNatClampNeg) 1280) (bnd (Rt_spread N (σ.2.1 6 ((σ.2.1 13 (x1).toNatClampNeg)).toNatClampNeg) σ) (fun σ7 => Rt_spreadLayer_7 N n (x1 + 1) σ7))) else Rt_spreadLayer_7 N n (x1 + 1) σ))
theorem Rt_spreadLayer_7_s (N : Nat) (n : Nat) (x1 : Int32) (σ : St) : Rt_spreadLayer_7 N (n + 1) x1 σ = if (σ.1 18) ≤ x1 then some σ else grd (inb x1 1280) (grd (inb (σ.2.1 13 (x1).toNatClampNeg) 1280) (if (σ.2.1 17 ((σ.2.1 13 (x1).toNatClampNeg)).toNatClampNeg) = (σ.1 25) then grd (inb x1 1280) (grd (inb (σ.2.1 13 (x1).toNatClampNeg) 1280) (bnd (Rt_spread N (σ.2.1 6 ((σ.2.1 13 (x1).toNatClampNeg)).toNatClampNeg) σ) (fun σ7 => Rt_spreadLayer_7 N n (x1 + 1) σ7))) else Rt_spreadLayer_7 N n (x1 + 1) σ)) := rfl
def Rt_spreadLayer (N : Nat)  (σ0 : St) : Option (St) := lt (si σ0 26 0) (fun σ8 => Rt_spreadLayer_7 N N 0 σ8)
abbrev rm_Rt_spreadLayer : Room := { frames := 5, cells := 0, slots := 0, locals := 110 }
set_option maxHeartbeats 4000000 in
set_option maxRecDepth 100000 in
theorem k_Rt_spreadLayer (l : Launch) (ad : Nat → Nat) (cI cJ cZ : ClassId) {N : Nat}  {σ0 : St} {τ : St} (hf : Rt_spreadLayer N σ0 = some τ) : CtV l yX3_spreadLayer (gws (.code yX3_spreadLayer cX3_spreadLayer 2 none)) (rm_Rt_spreadLayer) (ty3 cI cJ cZ) (xw ad cI cJ) [.ref (ad 7)] σ0 τ := by
  refine CtV.of (by decide) (xw_ok ad cI cJ) (Nat.le_of_ble_eq_true rfl) ?_
  generalize hav : ([.ref (ad 7)] : List Value) = av
  intro p e s m below meth c D A hC ls hl hP hS
  obtain ⟨hx, hb, hr, hlocks, hml, hown, hts, hK, hN, hD, hA⟩ := id hC
  rw [← hav] at hl
  have hl : lv_has ls 2 [(0, .ref (ad 7))] := hl
  unfold Rt_spreadLayer at hf
  have hw_7 : ∀ (n : Nat), ∀ (x1 : Int32) (σ : St) (H : Heap) (locs : List Loc) (ls : Array Slot), va_P D vwCl ((xw ad cI cJ) σ) H → va_S A s.heap H locs → lv_has ls 2 [(0, .ref (ad 7)), (1, .int x1)] → Rt_spreadLayer_7 N n x1 σ = some τ → W p l e (rm_Rt_spreadLayer) s m av.toArray below meth c H locs 0 0 (QV below av.toArray s D A (xw ad cI cJ) τ) (F0 m 7 ls []) := by
    intro n
    induction n with
    | zero =>
      intro x1 σ H locs ls hP hS hl hf
      cases hf
    | succ n ih =>
      intro x1 σ H locs ls hP hS hl hf
      rw [Rt_spreadLayer_7_s] at hf
      refine lv_iload_n hx hb dX3_spreadLayer_7 rfl (lv_at hl 1 rfl) ?_
      refine lv_aload_n hx hb dX3_spreadLayer_8 rfl (lv_at hl 0 rfl) ?_
      refine xg_7_1 hC hP tw_304 dX3_spreadLayer_9 ?_
      refine xg_6_1 hC hP tw_256 dX3_spreadLayer_12 ?_
      refine lv_icmp_ge (tgt := 66) hx hb dX3_spreadLayer_15 (by decide) (fun c1 => ?_) (fun c1 => ?_)
      · rw [if_pos c1] at hf
        have h2 := Option.some.inj hf
        exact retV hx hb hr hlocks hP hS h2 dX3_spreadLayer_66
      rw [if_neg c1] at hf
      refine lv_aload_n hx hb dX3_spreadLayer_18 rfl (lv_at hl 0 rfl) ?_
      refine xg_7_2 hC hP tw_305 dX3_spreadLayer_19 ?_
      refine lv_aload_n hx hb dX3_spreadLayer_22 rfl (lv_at hl 0 rfl) ?_
      refine xg_7_1 hC hP tw_304 dX3_spreadLayer_23 ?_
      refine xg_6_0 hC hP tw_253 dX3_spreadLayer_26 ?_
      refine lv_iload_n hx hb dX3_spreadLayer_29 rfl (lv_at hl 1 rfl) ?_
      obtain ⟨g2, hf⟩ := grd_some hf
      refine xl_22 hC hP g2 dX3_spreadLayer_30 ?_
      obtain ⟨g3, hf⟩ := grd_some hf
      refine xl_26 hC hP g3 dX3_spreadLayer_31 ?_
      refine lv_aload_n hx hb dX3_spreadLayer_32 rfl (lv_at hl 0 rfl) ?_
      refine xg_7_6 hC hP tw_309 dX3_spreadLayer_33 ?_
      refine lv_icmp_ne (tgt := 60) hx hb dX3_spreadLayer_36 (by decide) (fun c4 => ?_) (fun c4 => ?_)
      · rw [if_neg c4] at hf
        refine lv_iinc (v := (x1 + 1)) (lv' := [(1, .int (x1 + 1)), (0, .ref (ad 7))]) hx hb dX3_spreadLayer_60 hl (k := 1) rfl rfl (by decide) rfl (fun ls hl => ?_)
        refine lv_goto (tgt := 7) hx hb dX3_spreadLayer_63 (by decide) ?_
        exact ih (x1 + 1) σ H locs ls hP hS (lv_sub hl [1, 0] rfl) hf
      rw [if_pos c4] at hf
      refine lv_aload_n hx hb dX3_spreadLayer_39 rfl (lv_at hl 0 rfl) ?_
      refine lv_aload_n hx hb dX3_spreadLayer_40 rfl (lv_at hl 0 rfl) ?_
      refine xg_7_0 hC hP tw_303 dX3_spreadLayer_41 ?_
      refine xg_4_0 hC hP tw_201 dX3_spreadLayer_44 ?_
      refine lv_aload_n hx hb dX3_spreadLayer_47 rfl (lv_at hl 0 rfl) ?_
      refine xg_7_1 hC hP tw_304 dX3_spreadLayer_48 ?_
      refine xg_6_0 hC hP tw_253 dX3_spreadLayer_51 ?_
      refine lv_iload_n hx hb dX3_spreadLayer_54 rfl (lv_at hl 1 rfl) ?_
      obtain ⟨g5, hf⟩ := grd_some hf
      refine xl_22 hC hP g5 dX3_spreadLayer_55 ?_
      obtain ⟨g6, hf⟩ := grd_some hf
      refine xl_15 hC hP g6 dX3_spreadLayer_56 ?_
      obtain ⟨σ7, hcσ7, hf⟩ := bnd_some hf
      refine cVv (As := [.int (σ.2.1 6 ((σ.2.1 13 (x1).toNatClampNeg)).toNatClampNeg)]) (rest := []) hC (k_Rt_spread l ad cI cJ cZ hcσ7) yy_X3_spread tw_669 rfl rfl ⟨by decide, by decide⟩ hP hS (q0 := 7) (ci := 3) rfl rfl (xwa_7 ..) rfl hl.1 rfl (Nat.le_of_ble_eq_true rfl) dX3_spreadLayer_57 (fun H locs hP hS => ?_)
      refine lv_iinc (v := (x1 + 1)) (lv' := [(1, .int (x1 + 1)), (0, .ref (ad 7))]) hx hb dX3_spreadLayer_60 hl (k := 1) rfl rfl (by decide) rfl (fun ls hl => ?_)
      refine lv_goto (tgt := 7) hx hb dX3_spreadLayer_63 (by decide) ?_
      exact ih (x1 + 1) σ7 H locs ls hP hS (lv_sub hl [1, 0] rfl) hf
  obtain ⟨H, hH⟩ : ∃ z, z = s.heap := ⟨_, rfl⟩
  obtain ⟨locs, hlocs⟩ : ∃ z : List Loc, z = [] := ⟨_, rfl⟩
  rw [← hH] at hP
  have hS : va_S A s.heap H locs := by rw [hH, hlocs]; exact va_S.rf
  suffices hgoal : W p l e _ s m _ below meth c H locs 0 0 _ _ by rw [hH, hlocs] at hgoal; exact hgoal
  refine lv_aload_n hx hb dX3_spreadLayer_0 rfl (lv_at hl 0 rfl) ?_
  refine lv_iconst (v := 0) hx hb dX3_spreadLayer_1 (by decide) ?_
  refine xp_7_7 hC hP hS (by first | exact Or.inl rfl | exact Or.inr rfl) tw_310 dX3_spreadLayer_2 (fun H locs hP hS => ?_)
  obtain ⟨σ8, eσ8, hf⟩ := lt_e hf
  rw [← eσ8] at hP
  refine lv_iconst (v := 0) hx hb dX3_spreadLayer_5 (by decide) ?_
  refine lv_istore_n (lv' := [(1, .int 0), (0, .ref (ad 7))]) hx hb dX3_spreadLayer_6 rfl hl (by decide) rfl (fun ls hl => ?_)
  exact hw_7 N 0 σ8 H locs ls hP hS (lv_sub hl [1, 0] rfl) hf
theorem dX3_standAt_0 : decode cX3_standAt 0 = .ok (.aload_n 0, 1) := by decide +kernel
theorem dX3_standAt_1 : decode cX3_standAt 1 = .ok (.iload_n 1, 1) := by decide +kernel
theorem dX3_standAt_2 : decode cX3_standAt 2 = .ok (.putfield 22, 3) := by decide +kernel
theorem dX3_standAt_5 : decode cX3_standAt 5 = .ok (.aload_n 0, 1) := by decide +kernel
theorem dX3_standAt_6 : decode cX3_standAt 6 = .ok (.iconst 0, 1) := by decide +kernel
theorem dX3_standAt_7 : decode cX3_standAt 7 = .ok (.putfield 61, 3) := by decide +kernel
theorem dX3_standAt_10 : decode cX3_standAt 10 = .ok (.aload_n 0, 1) := by decide +kernel
theorem dX3_standAt_11 : decode cX3_standAt 11 = .ok (.getfield 18, 3) := by decide +kernel
theorem dX3_standAt_14 : decode cX3_standAt 14 = .ok (.invokevirtual 64, 3) := by decide +kernel
theorem dX3_standAt_17 : decode cX3_standAt 17 = .ok (.iconst 0, 1) := by decide +kernel
theorem dX3_standAt_18 : decode cX3_standAt 18 = .ok (.istore_n 2, 1) := by decide +kernel
theorem dX3_standAt_19 : decode cX3_standAt 19 = .ok (.iload_n 2, 1) := by decide +kernel
theorem dX3_standAt_20 : decode cX3_standAt 20 = .ok (.aload_n 0, 1) := by decide +kernel
theorem dX3_standAt_21 : decode cX3_standAt 21 = .ok (.getfield 30, 3) := by decide +kernel
theorem dX3_standAt_24 : decode cX3_standAt 24 = .ok (.getfield 67, 3) := by decide +kernel
theorem dX3_standAt_27 : decode cX3_standAt 27 = .ok (.if_icmp .ge 60, 3) := by decide +kernel
theorem dX3_standAt_30 : decode cX3_standAt 30 = .ok (.aload_n 0, 1) := by decide +kernel
theorem dX3_standAt_31 : decode cX3_standAt 31 = .ok (.getfield 30, 3) := by decide +kernel
theorem dX3_standAt_34 : decode cX3_standAt 34 = .ok (.getfield 72, 3) := by decide +kernel
theorem dX3_standAt_37 : decode cX3_standAt 37 = .ok (.iload_n 2, 1) := by decide +kernel
theorem dX3_standAt_38 : decode cX3_standAt 38 = .ok (.iaload, 1) := by decide +kernel
theorem dX3_standAt_39 : decode cX3_standAt 39 = .ok (.istore_n 3, 1) := by decide +kernel
theorem dX3_standAt_40 : decode cX3_standAt 40 = .ok (.aload_n 0, 1) := by decide +kernel
theorem dX3_standAt_41 : decode cX3_standAt 41 = .ok (.getfield 9, 3) := by decide +kernel
theorem dX3_standAt_44 : decode cX3_standAt 44 = .ok (.iload_n 3, 1) := by decide +kernel
theorem dX3_standAt_45 : decode cX3_standAt 45 = .ok (.iconst (-1), 1) := by decide +kernel
theorem dX3_standAt_46 : decode cX3_standAt 46 = .ok (.iastore, 1) := by decide +kernel
theorem dX3_standAt_47 : decode cX3_standAt 47 = .ok (.aload_n 0, 1) := by decide +kernel
theorem dX3_standAt_48 : decode cX3_standAt 48 = .ok (.dup, 1) := by decide +kernel
theorem dX3_standAt_49 : decode cX3_standAt 49 = .ok (.getfield 61, 3) := by decide +kernel
theorem dX3_standAt_52 : decode cX3_standAt 52 = .ok (.aload_n 0, 1) := by decide +kernel
theorem dX3_standAt_53 : decode cX3_standAt 53 = .ok (.getfield 26, 3) := by decide +kernel
theorem dX3_standAt_56 : decode cX3_standAt 56 = .ok (.getfield 56, 3) := by decide +kernel
theorem dX3_standAt_59 : decode cX3_standAt 59 = .ok (.iload_n 3, 1) := by decide +kernel
theorem dX3_standAt_60 : decode cX3_standAt 60 = .ok (.iaload, 1) := by decide +kernel
theorem dX3_standAt_61 : decode cX3_standAt 61 = .ok (.ior, 1) := by decide +kernel
theorem dX3_standAt_62 : decode cX3_standAt 62 = .ok (.putfield 61, 3) := by decide +kernel
theorem dX3_standAt_65 : decode cX3_standAt 65 = .ok (.aload_n 0, 1) := by decide +kernel
theorem dX3_standAt_66 : decode cX3_standAt 66 = .ok (.getfield 18, 3) := by decide +kernel
theorem dX3_standAt_69 : decode cX3_standAt 69 = .ok (.aload_n 0, 1) := by decide +kernel
theorem dX3_standAt_70 : decode cX3_standAt 70 = .ok (.getfield 26, 3) := by decide +kernel
theorem dX3_standAt_73 : decode cX3_standAt 73 = .ok (.getfield 56, 3) := by decide +kernel
theorem dX3_standAt_76 : decode cX3_standAt 76 = .ok (.iload_n 3, 1) := by decide +kernel
theorem dX3_standAt_77 : decode cX3_standAt 77 = .ok (.iaload, 1) := by decide +kernel
theorem dX3_standAt_78 : decode cX3_standAt 78 = .ok (.invokevirtual 75, 3) := by decide +kernel
theorem dX3_standAt_81 : decode cX3_standAt 81 = .ok (.iinc 2 1, 3) := by decide +kernel
theorem dX3_standAt_84 : decode cX3_standAt 84 = .ok (.goto (-65), 3) := by decide +kernel
theorem dX3_standAt_87 : decode cX3_standAt 87 = .ok (.aload_n 0, 1) := by decide +kernel
theorem dX3_standAt_88 : decode cX3_standAt 88 = .ok (.getfield 9, 3) := by decide +kernel
theorem dX3_standAt_91 : decode cX3_standAt 91 = .ok (.iload_n 1, 1) := by decide +kernel
theorem dX3_standAt_92 : decode cX3_standAt 92 = .ok (.iconst 0, 1) := by decide +kernel
theorem dX3_standAt_93 : decode cX3_standAt 93 = .ok (.iastore, 1) := by decide +kernel
theorem dX3_standAt_94 : decode cX3_standAt 94 = .ok (.aload_n 0, 1) := by decide +kernel
theorem dX3_standAt_95 : decode cX3_standAt 95 = .ok (.getfield 18, 3) := by decide +kernel
theorem dX3_standAt_98 : decode cX3_standAt 98 = .ok (.aload_n 0, 1) := by decide +kernel
theorem dX3_standAt_99 : decode cX3_standAt 99 = .ok (.getfield 26, 3) := by decide +kernel
theorem dX3_standAt_102 : decode cX3_standAt 102 = .ok (.getfield 56, 3) := by decide +kernel
theorem dX3_standAt_105 : decode cX3_standAt 105 = .ok (.iload_n 1, 1) := by decide +kernel
theorem dX3_standAt_106 : decode cX3_standAt 106 = .ok (.iaload, 1) := by decide +kernel
theorem dX3_standAt_107 : decode cX3_standAt 107 = .ok (.invokevirtual 78, 3) := by decide +kernel
theorem dX3_standAt_110 : decode cX3_standAt 110 = .ok (.aload_n 0, 1) := by decide +kernel
theorem dX3_standAt_111 : decode cX3_standAt 111 = .ok (.iconst 0, 1) := by decide +kernel
theorem dX3_standAt_112 : decode cX3_standAt 112 = .ok (.putfield 42, 3) := by decide +kernel
theorem dX3_standAt_115 : decode cX3_standAt 115 = .ok (.aload_n 0, 1) := by decide +kernel
theorem dX3_standAt_116 : decode cX3_standAt 116 = .ok (.iconst 1, 1) := by decide +kernel
theorem dX3_standAt_117 : decode cX3_standAt 117 = .ok (.putfield 38, 3) := by decide +kernel
theorem dX3_standAt_120 : decode cX3_standAt 120 = .ok (.return_, 1) := by decide +kernel
def Rt_standAt_19 (N : Nat) (k_87 : Int32 → St → Option (St)) : Nat → Int32 → Int32 → St → Option (St)
  | 0, _, _, _ => none
  | n + 1, x1, x2, σ => if (σ.1 18) ≤ x2 then k_87 x1 σ else grd (inb x2 1280) (lt ((σ.2.1 13 (x2).toNatClampNeg)) (fun y3 => grd (inb y3 1280) (lt (sa σ 17 (y3).toNatClampNeg (-1)) (fun σ5 => grd (inb y3 1280) (lt (si σ5 24 ((σ5.1 24) ||| (σ5.2.1 6 (y3).toNatClampNeg))) (fun σ7 => grd (inb y3 1280) (bnd (Un_put N (σ7.2.1 6 (y3).toNatClampNeg) σ7) (fun σ9 => Rt_standAt_19 N k_87 n x1 (x2 + 1) σ9))))))))
theorem Rt_standAt_19_s (N : Nat) (k_87 : Int32 → St → Option (St)) (n : Nat) (x1 : Int32) (x2 : Int32) (σ : St) : Rt_standAt_19 N k_87 (n + 1) x1 x2 σ = if (σ.1 18) ≤ x2 then k_87 x1 σ else grd (inb x2 1280) (lt ((σ.2.1 13 (x2).toNatClampNeg)) (fun y3 => grd (inb y3 1280) (lt (sa σ 17 (y3).toNatClampNeg (-1)) (fun σ5 => grd (inb y3 1280) (lt (si σ5 24 ((σ5.1 24) ||| (σ5.2.1 6 (y3).toNatClampNeg))) (fun σ7 => grd (inb y3 1280) (bnd (Un_put N (σ7.2.1 6 (y3).toNatClampNeg) σ7) (fun σ9 => Rt_standAt_19 N k_87 n x1 (x2 + 1) σ9)))))))) := rfl
def Rt_standAt_87 (N : Nat) (x1 : Int32) (σ : St) : Option (St) := grd (inb x1 1280) (lt (sa σ 17 (x1).toNatClampNeg 0) (fun σ11 => grd (inb x1 1280) (bnd (Un_drop N (σ11.2.1 6 (x1).toNatClampNeg) σ11) (fun σ13 => lt (si σ13 25 0) (fun σ14 => lt (si σ14 26 1) (fun σ15 => some σ15))))))
def Rt_standAt (N : Nat) (x1 : Int32) (σ0 : St) : Option (St) := lt (si σ0 23 x1) (fun σ16 => lt (si σ16 24 0) (fun σ17 => lt (Un_clear σ17) (fun σ18 => Rt_standAt_19 N (Rt_standAt_87 N) N x1 0 σ18)))
abbrev rm_Rt_standAt : Room := { frames := 2, cells := 0, slots := 0, locals := 44 }
set_option maxHeartbeats 4000000 in
set_option maxRecDepth 100000 in
theorem k_Rt_standAt (l : Launch) (ad : Nat → Nat) (cI cJ cZ : ClassId) {N : Nat} {x1 : Int32} {σ0 : St} {τ : St} (hf : Rt_standAt N x1 σ0 = some τ) : CtV l yX3_standAt (gws (.code yX3_standAt cX3_standAt 4 none)) (rm_Rt_standAt) (ty3 cI cJ cZ) (xw ad cI cJ) [.ref (ad 7), .int x1] σ0 τ := by
  refine CtV.of (by decide) (xw_ok ad cI cJ) (Nat.le_of_ble_eq_true rfl) ?_
  generalize hav : ([.ref (ad 7), .int x1] : List Value) = av
  intro p e s m below meth c D A hC ls hl hP hS
  obtain ⟨hx, hb, hr, hlocks, hml, hown, hts, hK, hN, hD, hA⟩ := id hC
  rw [← hav] at hl
  have hl : lv_has ls 4 [(0, .ref (ad 7)), (1, .int x1)] := hl
  unfold Rt_standAt at hf
  have hw_19 : ∀ (k_87 : Int32 → St → Option (St)) (hk_87 : ∀ (x1 : Int32) (σ : St) (H : Heap) (locs : List Loc) (ls : Array Slot), va_P D vwCl ((xw ad cI cJ) σ) H → va_S A s.heap H locs → lv_has ls 4 [(0, .ref (ad 7)), (1, .int x1)] → k_87 x1 σ = some τ → W p l e (rm_Rt_standAt) s m av.toArray below meth c H locs 0 0 (QV below av.toArray s D A (xw ad cI cJ) τ) (F0 m 87 ls [])), ∀ (n : Nat), ∀ (x1 : Int32) (x2 : Int32) (σ : St) (H : Heap) (locs : List Loc) (ls : Array Slot), va_P D vwCl ((xw ad cI cJ) σ) H → va_S A s.heap H locs → lv_has ls 4 [(0, .ref (ad 7)), (1, .int x1), (2, .int x2)] → Rt_standAt_19 N k_87 n x1 x2 σ = some τ → W p l e (rm_Rt_standAt) s m av.toArray below meth c H locs 0 0 (QV below av.toArray s D A (xw ad cI cJ) τ) (F0 m 19 ls []) := by
    intro k_87 hk_87
    intro n
    induction n with
    | zero =>
      intro x1 x2 σ H locs ls hP hS hl hf
      cases hf
    | succ n ih =>
      intro x1 x2 σ H locs ls hP hS hl hf
      rw [Rt_standAt_19_s] at hf
      refine lv_iload_n hx hb dX3_standAt_19 rfl (lv_at hl 2 rfl) ?_
      refine lv_aload_n hx hb dX3_standAt_20 rfl (lv_at hl 0 rfl) ?_
      refine xg_7_1 hC hP tw_304 dX3_standAt_21 ?_
      refine xg_6_1 hC hP tw_256 dX3_standAt_24 ?_
      refine lv_icmp_ge (tgt := 87) hx hb dX3_standAt_27 (by decide) (fun c1 => ?_) (fun c1 => ?_)
      · rw [if_pos c1] at hf
        exact hk_87 x1 σ H locs ls hP hS (lv_sub hl [0, 1] rfl) hf
      rw [if_neg c1] at hf
      refine lv_aload_n hx hb dX3_standAt_30 rfl (lv_at hl 0 rfl) ?_
      refine xg_7_1 hC hP tw_304 dX3_standAt_31 ?_
      refine xg_6_0 hC hP tw_253 dX3_standAt_34 ?_
      refine lv_iload_n hx hb dX3_standAt_37 rfl (lv_at hl 2 rfl) ?_
      obtain ⟨g2, hf⟩ := grd_some hf
      refine xl_22 hC hP g2 dX3_standAt_38 ?_
      obtain ⟨y3, ey3, hf⟩ := lt_e hf
      rw [← ey3]
      refine lv_istore_n (lv' := [(3, .int y3), (0, .ref (ad 7)), (1, .int x1), (2, .int x2)]) hx hb dX3_standAt_39 rfl hl (by decide) rfl (fun ls hl => ?_)
      refine lv_aload_n hx hb dX3_standAt_40 rfl (lv_at hl 1 rfl) ?_
      refine xg_7_2 hC hP tw_305 dX3_standAt_41 ?_
      refine lv_iload_n hx hb dX3_standAt_44 rfl (lv_at hl 0 rfl) ?_
      refine lv_iconst (v := (-1)) hx hb dX3_standAt_45 (by decide) ?_
      obtain ⟨g4, hf⟩ := grd_some hf
      refine xs_26 hC hP hS g4 dX3_standAt_46 (fun H locs hP hS => ?_)
      obtain ⟨σ5, eσ5, hf⟩ := lt_e hf
      rw [← eσ5] at hP
      refine lv_aload_n hx hb dX3_standAt_47 rfl (lv_at hl 1 rfl) ?_
      refine lv_dup hx hb dX3_standAt_48 rfl ?_
      refine xg_7_5 hC hP tw_308 dX3_standAt_49 ?_
      refine lv_aload_n hx hb dX3_standAt_52 rfl (lv_at hl 1 rfl) ?_
      refine xg_7_0 hC hP tw_303 dX3_standAt_53 ?_
      refine xg_4_0 hC hP tw_201 dX3_standAt_56 ?_
      refine lv_iload_n hx hb dX3_standAt_59 rfl (lv_at hl 0 rfl) ?_
      obtain ⟨g6, hf⟩ := grd_some hf
      refine xl_15 hC hP g6 dX3_standAt_60 ?_
      refine lv_ior hx hb dX3_standAt_61 ?_
      refine xp_7_5 hC hP hS tw_308 dX3_standAt_62 (fun H locs hP hS => ?_)
      obtain ⟨σ7, eσ7, hf⟩ := lt_e hf
      rw [← eσ7] at hP
      refine lv_aload_n hx hb dX3_standAt_65 rfl (lv_at hl 1 rfl) ?_
      refine xg_7_3 hC hP tw_306 dX3_standAt_66 ?_
      refine lv_aload_n hx hb dX3_standAt_69 rfl (lv_at hl 1 rfl) ?_
      refine xg_7_0 hC hP tw_303 dX3_standAt_70 ?_
      refine xg_4_0 hC hP tw_201 dX3_standAt_73 ?_
      refine lv_iload_n hx hb dX3_standAt_76 rfl (lv_at hl 0 rfl) ?_
      obtain ⟨g8, hf⟩ := grd_some hf
      refine xl_15 hC hP g8 dX3_standAt_77 ?_
      obtain ⟨σ9, hcσ9, hf⟩ := bnd_some hf
      refine cVv (As := [.int (σ7.2.1 6 (y3).toNatClampNeg)]) (rest := []) hC (k_Un_put l ad cI cJ cZ hcσ9) yy_X5_put tw_659 rfl rfl ⟨by decide, by decide⟩ hP hS (q0 := 8) (ci := 5) rfl rfl (xwa_8 ..) rfl hl.1 rfl (Nat.le_of_ble_eq_true rfl) dX3_standAt_78 (fun H locs hP hS => ?_)
      refine lv_iinc (v := (x2 + 1)) (lv' := [(2, .int (x2 + 1)), (3, .int y3), (0, .ref (ad 7)), (1, .int x1)]) hx hb dX3_standAt_81 hl (k := 3) rfl rfl (by decide) rfl (fun ls hl => ?_)
      refine lv_goto (tgt := 19) hx hb dX3_standAt_84 (by decide) ?_
      exact ih x1 (x2 + 1) σ9 H locs ls hP hS (lv_sub hl [2, 3, 0] rfl) hf
  have hw_87 : ∀ (x1 : Int32) (σ : St) (H : Heap) (locs : List Loc) (ls : Array Slot), va_P D vwCl ((xw ad cI cJ) σ) H → va_S A s.heap H locs → lv_has ls 4 [(0, .ref (ad 7)), (1, .int x1)] → Rt_standAt_87 N x1 σ = some τ → W p l e (rm_Rt_standAt) s m av.toArray below meth c H locs 0 0 (QV below av.toArray s D A (xw ad cI cJ) τ) (F0 m 87 ls []) := by
    intro x1 σ H locs ls hP hS hl hf
    unfold Rt_standAt_87 at hf
    refine lv_aload_n hx hb dX3_standAt_87 rfl (lv_at hl 0 rfl) ?_
    refine xg_7_2 hC hP tw_305 dX3_standAt_88 ?_
    refine lv_iload_n hx hb dX3_standAt_91 rfl (lv_at hl 1 rfl) ?_
    refine lv_iconst (v := 0) hx hb dX3_standAt_92 (by decide) ?_
    obtain ⟨g10, hf⟩ := grd_some hf
    refine xs_26 hC hP hS g10 dX3_standAt_93 (fun H locs hP hS => ?_)
    obtain ⟨σ11, eσ11, hf⟩ := lt_e hf
    rw [← eσ11] at hP
    refine lv_aload_n hx hb dX3_standAt_94 rfl (lv_at hl 0 rfl) ?_
    refine xg_7_3 hC hP tw_306 dX3_standAt_95 ?_
    refine lv_aload_n hx hb dX3_standAt_98 rfl (lv_at hl 0 rfl) ?_
    refine xg_7_0 hC hP tw_303 dX3_standAt_99 ?_
    refine xg_4_0 hC hP tw_201 dX3_standAt_102 ?_
    refine lv_iload_n hx hb dX3_standAt_105 rfl (lv_at hl 1 rfl) ?_
    obtain ⟨g12, hf⟩ := grd_some hf
    refine xl_15 hC hP g12 dX3_standAt_106 ?_
    obtain ⟨σ13, hcσ13, hf⟩ := bnd_some hf
    refine cVv (As := [.int (σ11.2.1 6 (x1).toNatClampNeg)]) (rest := []) hC (k_Un_drop l ad cI cJ cZ hcσ13) yy_X5_drop tw_660 rfl rfl ⟨by decide, by decide⟩ hP hS (q0 := 8) (ci := 5) rfl rfl (xwa_8 ..) rfl hl.1 rfl (Nat.le_of_ble_eq_true rfl) dX3_standAt_107 (fun H locs hP hS => ?_)
    refine lv_aload_n hx hb dX3_standAt_110 rfl (lv_at hl 0 rfl) ?_
    refine lv_iconst (v := 0) hx hb dX3_standAt_111 (by decide) ?_
    refine xp_7_6 hC hP hS tw_309 dX3_standAt_112 (fun H locs hP hS => ?_)
    obtain ⟨σ14, eσ14, hf⟩ := lt_e hf
    rw [← eσ14] at hP
    refine lv_aload_n hx hb dX3_standAt_115 rfl (lv_at hl 0 rfl) ?_
    refine lv_iconst (v := 1) hx hb dX3_standAt_116 (by decide) ?_
    refine xp_7_7 hC hP hS (by first | exact Or.inl rfl | exact Or.inr rfl) tw_310 dX3_standAt_117 (fun H locs hP hS => ?_)
    obtain ⟨σ15, eσ15, hf⟩ := lt_e hf
    rw [← eσ15] at hP
    have h2 := Option.some.inj hf
    exact retV hx hb hr hlocks hP hS h2 dX3_standAt_120
  obtain ⟨H, hH⟩ : ∃ z, z = s.heap := ⟨_, rfl⟩
  obtain ⟨locs, hlocs⟩ : ∃ z : List Loc, z = [] := ⟨_, rfl⟩
  rw [← hH] at hP
  have hS : va_S A s.heap H locs := by rw [hH, hlocs]; exact va_S.rf
  suffices hgoal : W p l e _ s m _ below meth c H locs 0 0 _ _ by rw [hH, hlocs] at hgoal; exact hgoal
  refine lv_aload_n hx hb dX3_standAt_0 rfl (lv_at hl 0 rfl) ?_
  refine lv_iload_n hx hb dX3_standAt_1 rfl (lv_at hl 1 rfl) ?_
  refine xp_7_4 hC hP hS tw_307 dX3_standAt_2 (fun H locs hP hS => ?_)
  obtain ⟨σ16, eσ16, hf⟩ := lt_e hf
  rw [← eσ16] at hP
  refine lv_aload_n hx hb dX3_standAt_5 rfl (lv_at hl 0 rfl) ?_
  refine lv_iconst (v := 0) hx hb dX3_standAt_6 (by decide) ?_
  refine xp_7_5 hC hP hS tw_308 dX3_standAt_7 (fun H locs hP hS => ?_)
  obtain ⟨σ17, eσ17, hf⟩ := lt_e hf
  rw [← eσ17] at hP
  refine lv_aload_n hx hb dX3_standAt_10 rfl (lv_at hl 0 rfl) ?_
  refine xg_7_3 hC hP tw_306 dX3_standAt_11 ?_
  obtain ⟨σ18, eσ18, hf⟩ := lt_e hf
  refine cVv (As := []) (rest := []) hC (k_Un_clear l ad cI cJ cZ eσ18.symm) yy_X5_clear tw_658 rfl rfl ⟨by decide, by decide⟩ hP hS (q0 := 8) (ci := 5) rfl rfl (xwa_8 ..) rfl hl.1 rfl (Nat.le_of_ble_eq_true rfl) dX3_standAt_14 (fun H locs hP hS => ?_)
  refine lv_iconst (v := 0) hx hb dX3_standAt_17 (by decide) ?_
  refine lv_istore_n (lv' := [(2, .int 0), (0, .ref (ad 7)), (1, .int x1)]) hx hb dX3_standAt_18 rfl hl (by decide) rfl (fun ls hl => ?_)
  exact hw_19 (Rt_standAt_87 N) hw_87 N x1 0 σ18 H locs ls hP hS (lv_sub hl [1, 2, 0] rfl) hf
theorem dX3_length_0 : decode cX3_length 0 = .ok (.aload_n 0, 1) := by decide +kernel
theorem dX3_length_1 : decode cX3_length 1 = .ok (.getfield 22, 3) := by decide +kernel
theorem dX3_length_4 : decode cX3_length 4 = .ok (.iload_n 2, 1) := by decide +kernel
theorem dX3_length_5 : decode cX3_length 5 = .ok (.if_icmp .eq 8, 3) := by decide +kernel
theorem dX3_length_8 : decode cX3_length 8 = .ok (.aload_n 0, 1) := by decide +kernel
theorem dX3_length_9 : decode cX3_length 9 = .ok (.iload_n 2, 1) := by decide +kernel
theorem dX3_length_10 : decode cX3_length 10 = .ok (.invokevirtual 34, 3) := by decide +kernel
theorem dX3_length_13 : decode cX3_length 13 = .ok (.aload_n 0, 1) := by decide +kernel
theorem dX3_length_14 : decode cX3_length 14 = .ok (.getfield 9, 3) := by decide +kernel
theorem dX3_length_17 : decode cX3_length 17 = .ok (.iload_n 1, 1) := by decide +kernel
theorem dX3_length_18 : decode cX3_length 18 = .ok (.iaload, 1) := by decide +kernel
theorem dX3_length_19 : decode cX3_length 19 = .ok (.iconst (-1), 1) := by decide +kernel
theorem dX3_length_20 : decode cX3_length 20 = .ok (.if_icmp .ne 37, 3) := by decide +kernel
theorem dX3_length_23 : decode cX3_length 23 = .ok (.aload_n 0, 1) := by decide +kernel
theorem dX3_length_24 : decode cX3_length 24 = .ok (.getfield 38, 3) := by decide +kernel
theorem dX3_length_27 : decode cX3_length 27 = .ok (.ifCond .eq 30, 3) := by decide +kernel
theorem dX3_length_30 : decode cX3_length 30 = .ok (.aload_n 0, 1) := by decide +kernel
theorem dX3_length_31 : decode cX3_length 31 = .ok (.getfield 42, 3) := by decide +kernel
theorem dX3_length_34 : decode cX3_length 34 = .ok (.sipush 1280, 3) := by decide +kernel
theorem dX3_length_37 : decode cX3_length 37 = .ok (.if_icmp .ge 20, 3) := by decide +kernel
theorem dX3_length_40 : decode cX3_length 40 = .ok (.aload_n 0, 1) := by decide +kernel
theorem dX3_length_41 : decode cX3_length 41 = .ok (.invokevirtual 45, 3) := by decide +kernel
theorem dX3_length_44 : decode cX3_length 44 = .ok (.aload_n 0, 1) := by decide +kernel
theorem dX3_length_45 : decode cX3_length 45 = .ok (.dup, 1) := by decide +kernel
theorem dX3_length_46 : decode cX3_length 46 = .ok (.getfield 42, 3) := by decide +kernel
theorem dX3_length_49 : decode cX3_length 49 = .ok (.iconst 1, 1) := by decide +kernel
theorem dX3_length_50 : decode cX3_length 50 = .ok (.iadd, 1) := by decide +kernel
theorem dX3_length_51 : decode cX3_length 51 = .ok (.putfield 42, 3) := by decide +kernel
theorem dX3_length_54 : decode cX3_length 54 = .ok (.goto (-41), 3) := by decide +kernel
theorem dX3_length_57 : decode cX3_length 57 = .ok (.aload_n 0, 1) := by decide +kernel
theorem dX3_length_58 : decode cX3_length 58 = .ok (.getfield 9, 3) := by decide +kernel
theorem dX3_length_61 : decode cX3_length 61 = .ok (.iload_n 1, 1) := by decide +kernel
theorem dX3_length_62 : decode cX3_length 62 = .ok (.iaload, 1) := by decide +kernel
theorem dX3_length_63 : decode cX3_length 63 = .ok (.ireturn, 1) := by decide +kernel
def Rt_length_13 (N : Nat) (k_57 : Int32 → St → Option (Int32 × St)) : Nat → Int32 → St → Option (Int32 × St)
  | 0, _, _ => none
  | n + 1, x1, σ => grd (inb x1 1280) (if (σ.2.1 17 (x1).toNatClampNeg) = (-1) then if (σ.1 26) = 0 then k_57 x1 σ else if 1280 ≤ (σ.1 25) then k_57 x1 σ else bnd (Rt_spreadLayer N σ) (fun σ5 => lt (si σ5 25 ((σ5.1 25) + 1)) (fun σ6 => Rt_length_13 N k_57 n x1 σ6)) else k_57 x1 σ)
theorem Rt_length_13_s (N : Nat) (k_57 : Int32 → St → Option (Int32 × St)) (n : Nat) (x1 : Int32) (σ : St) : Rt_length_13 N k_57 (n + 1) x1 σ = grd (inb x1 1280) (if (σ.2.1 17 (x1).toNatClampNeg) = (-1) then if (σ.1 26) = 0 then k_57 x1 σ else if 1280 ≤ (σ.1 25) then k_57 x1 σ else bnd (Rt_spreadLayer N σ) (fun σ5 => lt (si σ5 25 ((σ5.1 25) + 1)) (fun σ6 => Rt_length_13 N k_57 n x1 σ6)) else k_57 x1 σ) := rfl
def Rt_length_57 (N : Nat) (x1 : Int32) (σ : St) : Option (Int32 × St) := grd (inb x1 1280) (some ((σ.2.1 17 (x1).toNatClampNeg), σ))
def Rt_length (N : Nat) (x1 : Int32) (x2 : Int32) (σ0 : St) : Option (Int32 × St) := if (σ0.1 23) = x2 then Rt_length_13 N (Rt_length_57 N) N x1 σ0 else bnd (Rt_standAt N x2 σ0) (fun σ9 => Rt_length_13 N (Rt_length_57 N) N x1 σ9)
abbrev rm_Rt_length : Room := { frames := 6, cells := 0, slots := 0, locals := 131 }
set_option maxHeartbeats 4000000 in
set_option maxRecDepth 100000 in
theorem k_Rt_length (l : Launch) (ad : Nat → Nat) (cI cJ cZ : ClassId) {N : Nat} {x1 : Int32} {x2 : Int32} {σ0 : St} {r : Int32} {τ : St} (hf : Rt_length N x1 x2 σ0 = some (r, τ)) : CtI l yX3_length (gws (.code yX3_length cX3_length 3 (some .int))) (rm_Rt_length) (ty3 cI cJ cZ) (xw ad cI cJ) [.ref (ad 7), .int x1, .int x2] σ0 r τ := by
  refine CtI.of (by decide) (xw_ok ad cI cJ) (Nat.le_of_ble_eq_true rfl) ?_
  generalize hav : ([.ref (ad 7), .int x1, .int x2] : List Value) = av
  intro p e s m below meth c D A hC ls hl hP hS
  obtain ⟨hx, hb, hr, hlocks, hml, hown, hts, hK, hN, hD, hA⟩ := id hC
  rw [← hav] at hl
  have hl : lv_has ls 3 [(0, .ref (ad 7)), (1, .int x1), (2, .int x2)] := hl
  unfold Rt_length at hf
  have hw_13 : ∀ (k_57 : Int32 → St → Option (Int32 × St)) (hk_57 : ∀ (x1 : Int32) (σ : St) (H : Heap) (locs : List Loc) (ls : Array Slot), va_P D vwCl ((xw ad cI cJ) σ) H → va_S A s.heap H locs → lv_has ls 3 [(0, .ref (ad 7)), (1, .int x1)] → k_57 x1 σ = some (r, τ) → W p l e (rm_Rt_length) s m av.toArray below meth c H locs 0 0 (QI below av.toArray s D A (xw ad cI cJ) r τ) (F0 m 57 ls [])), ∀ (n : Nat), ∀ (x1 : Int32) (σ : St) (H : Heap) (locs : List Loc) (ls : Array Slot), va_P D vwCl ((xw ad cI cJ) σ) H → va_S A s.heap H locs → lv_has ls 3 [(0, .ref (ad 7)), (1, .int x1)] → Rt_length_13 N k_57 n x1 σ = some (r, τ) → W p l e (rm_Rt_length) s m av.toArray below meth c H locs 0 0 (QI below av.toArray s D A (xw ad cI cJ) r τ) (F0 m 13 ls []) := by
    intro k_57 hk_57
    intro n
    induction n with
    | zero =>
      intro x1 σ H locs ls hP hS hl hf
      cases hf
    | succ n ih =>
      intro x1 σ H locs ls hP hS hl hf
      rw [Rt_length_13_s] at hf
      refine lv_aload_n hx hb dX3_length_13 rfl (lv_at hl 0 rfl) ?_
      refine xg_7_2 hC hP tw_305 dX3_length_14 ?_
      refine lv_iload_n hx hb dX3_length_17 rfl (lv_at hl 1 rfl) ?_
      obtain ⟨g1, hf⟩ := grd_some hf
      refine xl_26 hC hP g1 dX3_length_18 ?_
      refine lv_iconst (v := (-1)) hx hb dX3_length_19 (by decide) ?_
      refine lv_icmp_ne (tgt := 57) hx hb dX3_length_20 (by decide) (fun c2 => ?_) (fun c2 => ?_)
      · rw [if_neg c2] at hf
        exact hk_57 x1 σ H locs ls hP hS (lv_sub hl [0, 1] rfl) hf
      rw [if_pos c2] at hf
      refine lv_aload_n hx hb dX3_length_23 rfl (lv_at hl 0 rfl) ?_
      refine xg_7_7 hC hP tw_310 dX3_length_24 ?_
      refine lv_if_eq (tgt := 57) hx hb dX3_length_27 (by decide) (fun c3 => ?_) (fun c3 => ?_)
      · rw [if_pos c3] at hf
        exact hk_57 x1 σ H locs ls hP hS (lv_sub hl [0, 1] rfl) hf
      rw [if_neg c3] at hf
      refine lv_aload_n hx hb dX3_length_30 rfl (lv_at hl 0 rfl) ?_
      refine xg_7_6 hC hP tw_309 dX3_length_31 ?_
      refine lv_sipush (v := 1280) hx hb dX3_length_34 (by decide) ?_
      refine lv_icmp_ge (tgt := 57) hx hb dX3_length_37 (by decide) (fun c4 => ?_) (fun c4 => ?_)
      · rw [if_pos c4] at hf
        exact hk_57 x1 σ H locs ls hP hS (lv_sub hl [0, 1] rfl) hf
      rw [if_neg c4] at hf
      refine lv_aload_n hx hb dX3_length_40 rfl (lv_at hl 0 rfl) ?_
      obtain ⟨σ5, hcσ5, hf⟩ := bnd_some hf
      refine cVv (As := []) (rest := []) hC (k_Rt_spreadLayer l ad cI cJ cZ hcσ5) yy_X3_spreadLayer tw_665 rfl rfl ⟨by decide, by decide⟩ hP hS (q0 := 7) (ci := 3) rfl rfl (xwa_7 ..) rfl hl.1 rfl (Nat.le_of_ble_eq_true rfl) dX3_length_41 (fun H locs hP hS => ?_)
      refine lv_aload_n hx hb dX3_length_44 rfl (lv_at hl 0 rfl) ?_
      refine lv_dup hx hb dX3_length_45 rfl ?_
      refine xg_7_6 hC hP tw_309 dX3_length_46 ?_
      refine lv_iconst (v := 1) hx hb dX3_length_49 (by decide) ?_
      refine lv_iadd hx hb dX3_length_50 ?_
      refine xp_7_6 hC hP hS tw_309 dX3_length_51 (fun H locs hP hS => ?_)
      obtain ⟨σ6, eσ6, hf⟩ := lt_e hf
      rw [← eσ6] at hP
      refine lv_goto (tgt := 13) hx hb dX3_length_54 (by decide) ?_
      exact ih x1 σ6 H locs ls hP hS (lv_sub hl [0, 1] rfl) hf
  have hw_57 : ∀ (x1 : Int32) (σ : St) (H : Heap) (locs : List Loc) (ls : Array Slot), va_P D vwCl ((xw ad cI cJ) σ) H → va_S A s.heap H locs → lv_has ls 3 [(0, .ref (ad 7)), (1, .int x1)] → Rt_length_57 N x1 σ = some (r, τ) → W p l e (rm_Rt_length) s m av.toArray below meth c H locs 0 0 (QI below av.toArray s D A (xw ad cI cJ) r τ) (F0 m 57 ls []) := by
    intro x1 σ H locs ls hP hS hl hf
    unfold Rt_length_57 at hf
    refine lv_aload_n hx hb dX3_length_57 rfl (lv_at hl 0 rfl) ?_
    refine xg_7_2 hC hP tw_305 dX3_length_58 ?_
    refine lv_iload_n hx hb dX3_length_61 rfl (lv_at hl 1 rfl) ?_
    obtain ⟨g7, hf⟩ := grd_some hf
    refine xl_26 hC hP g7 dX3_length_62 ?_
    obtain ⟨h1, h2⟩ := ret2 hf
    exact retI hx hb hr hlocks hP hS h1 h2 dX3_length_63
  obtain ⟨H, hH⟩ : ∃ z, z = s.heap := ⟨_, rfl⟩
  obtain ⟨locs, hlocs⟩ : ∃ z : List Loc, z = [] := ⟨_, rfl⟩
  rw [← hH] at hP
  have hS : va_S A s.heap H locs := by rw [hH, hlocs]; exact va_S.rf
  suffices hgoal : W p l e _ s m _ below meth c H locs 0 0 _ _ by rw [hH, hlocs] at hgoal; exact hgoal
  refine lv_aload_n hx hb dX3_length_0 rfl (lv_at hl 0 rfl) ?_
  refine xg_7_4 hC hP tw_307 dX3_length_1 ?_
  refine lv_iload_n hx hb dX3_length_4 rfl (lv_at hl 2 rfl) ?_
  refine lv_icmp_eq (tgt := 13) hx hb dX3_length_5 (by decide) (fun c8 => ?_) (fun c8 => ?_)
  · rw [if_pos c8] at hf
    exact hw_13 (Rt_length_57 N) hw_57 N x1 σ0 H locs ls hP hS (lv_sub hl [0, 1] rfl) hf
  rw [if_neg c8] at hf
  refine lv_aload_n hx hb dX3_length_8 rfl (lv_at hl 0 rfl) ?_
  refine lv_iload_n hx hb dX3_length_9 rfl (lv_at hl 2 rfl) ?_
  obtain ⟨σ9, hcσ9, hf⟩ := bnd_some hf
  refine cVv (As := [.int x2]) (rest := []) hC (k_Rt_standAt l ad cI cJ cZ hcσ9) yy_X3_standAt tw_654 rfl rfl ⟨by decide, by decide⟩ hP hS (q0 := 7) (ci := 3) rfl rfl (xwa_7 ..) rfl hl.1 rfl (Nat.le_of_ble_eq_true rfl) dX3_length_10 (fun H locs hP hS => ?_)
  exact hw_13 (Rt_length_57 N) hw_57 N x1 σ9 H locs ls hP hS (lv_sub hl [0, 1] rfl) hf
theorem dX3_nextOf_0 : decode cX3_nextOf 0 = .ok (.iconst 0, 1) := by decide +kernel
theorem dX3_nextOf_1 : decode cX3_nextOf 1 = .ok (.istore_n 2, 1) := by decide +kernel
theorem dX3_nextOf_2 : decode cX3_nextOf 2 = .ok (.iload_n 2, 1) := by decide +kernel
theorem dX3_nextOf_3 : decode cX3_nextOf 3 = .ok (.aload_n 0, 1) := by decide +kernel
theorem dX3_nextOf_4 : decode cX3_nextOf 4 = .ok (.getfield 30, 3) := by decide +kernel
theorem dX3_nextOf_7 : decode cX3_nextOf 7 = .ok (.getfield 67, 3) := by decide +kernel
theorem dX3_nextOf_10 : decode cX3_nextOf 10 = .ok (.if_icmp .ge 64, 3) := by decide +kernel
theorem dX3_nextOf_13 : decode cX3_nextOf 13 = .ok (.aload_n 0, 1) := by decide +kernel
theorem dX3_nextOf_14 : decode cX3_nextOf 14 = .ok (.getfield 30, 3) := by decide +kernel
theorem dX3_nextOf_17 : decode cX3_nextOf 17 = .ok (.getfield 72, 3) := by decide +kernel
theorem dX3_nextOf_20 : decode cX3_nextOf 20 = .ok (.iload_n 2, 1) := by decide +kernel
theorem dX3_nextOf_21 : decode cX3_nextOf 21 = .ok (.iaload, 1) := by decide +kernel
theorem dX3_nextOf_22 : decode cX3_nextOf 22 = .ok (.istore_n 3, 1) := by decide +kernel
theorem dX3_nextOf_23 : decode cX3_nextOf 23 = .ok (.aload_n 0, 1) := by decide +kernel
theorem dX3_nextOf_24 : decode cX3_nextOf 24 = .ok (.getfield 9, 3) := by decide +kernel
theorem dX3_nextOf_27 : decode cX3_nextOf 27 = .ok (.iload_n 3, 1) := by decide +kernel
theorem dX3_nextOf_28 : decode cX3_nextOf 28 = .ok (.iaload, 1) := by decide +kernel
theorem dX3_nextOf_29 : decode cX3_nextOf 29 = .ok (.aload_n 0, 1) := by decide +kernel
theorem dX3_nextOf_30 : decode cX3_nextOf 30 = .ok (.getfield 9, 3) := by decide +kernel
theorem dX3_nextOf_33 : decode cX3_nextOf 33 = .ok (.iload_n 1, 1) := by decide +kernel
theorem dX3_nextOf_34 : decode cX3_nextOf 34 = .ok (.iaload, 1) := by decide +kernel
theorem dX3_nextOf_35 : decode cX3_nextOf 35 = .ok (.iconst 1, 1) := by decide +kernel
theorem dX3_nextOf_36 : decode cX3_nextOf 36 = .ok (.isub, 1) := by decide +kernel
theorem dX3_nextOf_37 : decode cX3_nextOf 37 = .ok (.if_icmp .ne 31, 3) := by decide +kernel
theorem dX3_nextOf_40 : decode cX3_nextOf 40 = .ok (.aload_n 0, 1) := by decide +kernel
theorem dX3_nextOf_41 : decode cX3_nextOf 41 = .ok (.getfield 26, 3) := by decide +kernel
theorem dX3_nextOf_44 : decode cX3_nextOf 44 = .ok (.getfield 56, 3) := by decide +kernel
theorem dX3_nextOf_47 : decode cX3_nextOf 47 = .ok (.iload_n 3, 1) := by decide +kernel
theorem dX3_nextOf_48 : decode cX3_nextOf 48 = .ok (.iaload, 1) := by decide +kernel
theorem dX3_nextOf_49 : decode cX3_nextOf 49 = .ok (.aload_n 0, 1) := by decide +kernel
theorem dX3_nextOf_50 : decode cX3_nextOf 50 = .ok (.getfield 26, 3) := by decide +kernel
theorem dX3_nextOf_53 : decode cX3_nextOf 53 = .ok (.getfield 56, 3) := by decide +kernel
theorem dX3_nextOf_56 : decode cX3_nextOf 56 = .ok (.iload_n 1, 1) := by decide +kernel
theorem dX3_nextOf_57 : decode cX3_nextOf 57 = .ok (.iaload, 1) := by decide +kernel
theorem dX3_nextOf_58 : decode cX3_nextOf 58 = .ok (.ixor, 1) := by decide +kernel
theorem dX3_nextOf_59 : decode cX3_nextOf 59 = .ok (.invokestatic 94, 3) := by decide +kernel
theorem dX3_nextOf_62 : decode cX3_nextOf 62 = .ok (.iconst 2, 1) := by decide +kernel
theorem dX3_nextOf_63 : decode cX3_nextOf 63 = .ok (.if_icmp .ne 5, 3) := by decide +kernel
theorem dX3_nextOf_66 : decode cX3_nextOf 66 = .ok (.iload_n 3, 1) := by decide +kernel
theorem dX3_nextOf_67 : decode cX3_nextOf 67 = .ok (.ireturn, 1) := by decide +kernel
theorem dX3_nextOf_68 : decode cX3_nextOf 68 = .ok (.iinc 2 1, 3) := by decide +kernel
theorem dX3_nextOf_71 : decode cX3_nextOf 71 = .ok (.goto (-69), 3) := by decide +kernel
theorem dX3_nextOf_74 : decode cX3_nextOf 74 = .ok (.iload_n 1, 1) := by decide +kernel
theorem dX3_nextOf_75 : decode cX3_nextOf 75 = .ok (.ireturn, 1) := by decide +kernel
def Rt_nextOf_2 (N : Nat) : Nat → Int32 → Int32 → St → Option (Int32)
  | 0, _, _, _ => none
  | n + 1, x1, x2, σ0 => if (σ0.1 18) ≤ x2 then some x1 else grd (inb x2 1280) (lt ((σ0.2.1 13 (x2).toNatClampNeg)) (fun y3 => grd (inb y3 1280) (grd (inb x1 1280) (if (σ0.2.1 17 (y3).toNatClampNeg) = ((σ0.2.1 17 (x1).toNatClampNeg) - 1) then grd (inb y3 1280) (grd (inb x1 1280) (if (J_bc ((σ0.2.1 6 (y3).toNatClampNeg) ^^^ (σ0.2.1 6 (x1).toNatClampNeg))) = 2 then some y3 else Rt_nextOf_2 N n x1 (x2 + 1) σ0)) else Rt_nextOf_2 N n x1 (x2 + 1) σ0))))
theorem Rt_nextOf_2_s (N : Nat) (n : Nat) (x1 : Int32) (x2 : Int32) (σ0 : St) : Rt_nextOf_2 N (n + 1) x1 x2 σ0 = if (σ0.1 18) ≤ x2 then some x1 else grd (inb x2 1280) (lt ((σ0.2.1 13 (x2).toNatClampNeg)) (fun y3 => grd (inb y3 1280) (grd (inb x1 1280) (if (σ0.2.1 17 (y3).toNatClampNeg) = ((σ0.2.1 17 (x1).toNatClampNeg) - 1) then grd (inb y3 1280) (grd (inb x1 1280) (if (J_bc ((σ0.2.1 6 (y3).toNatClampNeg) ^^^ (σ0.2.1 6 (x1).toNatClampNeg))) = 2 then some y3 else Rt_nextOf_2 N n x1 (x2 + 1) σ0)) else Rt_nextOf_2 N n x1 (x2 + 1) σ0)))) := rfl
def Rt_nextOf (N : Nat) (x1 : Int32) (σ0 : St) : Option (Int32) := Rt_nextOf_2 N N x1 0 σ0
abbrev rm_Rt_nextOf : Room := { frames := 1, cells := 0, slots := 0, locals := 20 }
set_option maxHeartbeats 4000000 in
set_option maxRecDepth 100000 in
theorem k_Rt_nextOf (l : Launch) (ad : Nat → Nat) (cI cJ cZ : ClassId) {N : Nat} {x1 : Int32} {σ0 : St} {r : Int32} (hf : Rt_nextOf N x1 σ0 = some r) : CtI l yX3_nextOf (gws (.code yX3_nextOf cX3_nextOf 4 (some .int))) (rm_Rt_nextOf) (ty3 cI cJ cZ) (xw ad cI cJ) [.ref (ad 7), .int x1] σ0 r σ0 := by
  refine CtI.of (by decide) (xw_ok ad cI cJ) (Nat.le_of_ble_eq_true rfl) ?_
  generalize hav : ([.ref (ad 7), .int x1] : List Value) = av
  intro p e s m below meth c D A hC ls hl hP hS
  obtain ⟨hx, hb, hr, hlocks, hml, hown, hts, hK, hN, hD, hA⟩ := id hC
  rw [← hav] at hl
  have hl : lv_has ls 4 [(0, .ref (ad 7)), (1, .int x1)] := hl
  unfold Rt_nextOf at hf
  have hw_2 : ∀ (n : Nat), ∀ (x1 : Int32) (x2 : Int32) (H : Heap) (locs : List Loc) (ls : Array Slot), va_P D vwCl ((xw ad cI cJ) σ0) H → va_S A s.heap H locs → lv_has ls 4 [(0, .ref (ad 7)), (1, .int x1), (2, .int x2)] → Rt_nextOf_2 N n x1 x2 σ0 = some r → W p l e (rm_Rt_nextOf) s m av.toArray below meth c H locs 0 0 (QI below av.toArray s D A (xw ad cI cJ) r σ0) (F0 m 2 ls []) := by
    intro n
    induction n with
    | zero =>
      intro x1 x2 H locs ls hP hS hl hf
      cases hf
    | succ n ih =>
      intro x1 x2 H locs ls hP hS hl hf
      rw [Rt_nextOf_2_s] at hf
      refine lv_iload_n hx hb dX3_nextOf_2 rfl (lv_at hl 2 rfl) ?_
      refine lv_aload_n hx hb dX3_nextOf_3 rfl (lv_at hl 0 rfl) ?_
      refine xg_7_1 hC hP tw_304 dX3_nextOf_4 ?_
      refine xg_6_1 hC hP tw_256 dX3_nextOf_7 ?_
      refine lv_icmp_ge (tgt := 74) hx hb dX3_nextOf_10 (by decide) (fun c1 => ?_) (fun c1 => ?_)
      · rw [if_pos c1] at hf
        refine lv_iload_n hx hb dX3_nextOf_74 rfl (lv_at hl 1 rfl) ?_
        have h1 := Option.some.inj hf
        exact retI hx hb hr hlocks hP hS h1 rfl dX3_nextOf_75
      rw [if_neg c1] at hf
      refine lv_aload_n hx hb dX3_nextOf_13 rfl (lv_at hl 0 rfl) ?_
      refine xg_7_1 hC hP tw_304 dX3_nextOf_14 ?_
      refine xg_6_0 hC hP tw_253 dX3_nextOf_17 ?_
      refine lv_iload_n hx hb dX3_nextOf_20 rfl (lv_at hl 2 rfl) ?_
      obtain ⟨g2, hf⟩ := grd_some hf
      refine xl_22 hC hP g2 dX3_nextOf_21 ?_
      obtain ⟨y3, ey3, hf⟩ := lt_e hf
      rw [← ey3]
      refine lv_istore_n (lv' := [(3, .int y3), (0, .ref (ad 7)), (1, .int x1), (2, .int x2)]) hx hb dX3_nextOf_22 rfl hl (by decide) rfl (fun ls hl => ?_)
      refine lv_aload_n hx hb dX3_nextOf_23 rfl (lv_at hl 1 rfl) ?_
      refine xg_7_2 hC hP tw_305 dX3_nextOf_24 ?_
      refine lv_iload_n hx hb dX3_nextOf_27 rfl (lv_at hl 0 rfl) ?_
      obtain ⟨g4, hf⟩ := grd_some hf
      refine xl_26 hC hP g4 dX3_nextOf_28 ?_
      refine lv_aload_n hx hb dX3_nextOf_29 rfl (lv_at hl 1 rfl) ?_
      refine xg_7_2 hC hP tw_305 dX3_nextOf_30 ?_
      refine lv_iload_n hx hb dX3_nextOf_33 rfl (lv_at hl 2 rfl) ?_
      obtain ⟨g5, hf⟩ := grd_some hf
      refine xl_26 hC hP g5 dX3_nextOf_34 ?_
      refine lv_iconst (v := 1) hx hb dX3_nextOf_35 (by decide) ?_
      refine lv_isub hx hb dX3_nextOf_36 ?_
      refine lv_icmp_ne (tgt := 68) hx hb dX3_nextOf_37 (by decide) (fun c6 => ?_) (fun c6 => ?_)
      · rw [if_neg c6] at hf
        refine lv_iinc (v := (x2 + 1)) (lv' := [(2, .int (x2 + 1)), (3, .int y3), (0, .ref (ad 7)), (1, .int x1)]) hx hb dX3_nextOf_68 hl (k := 3) rfl rfl (by decide) rfl (fun ls hl => ?_)
        refine lv_goto (tgt := 2) hx hb dX3_nextOf_71 (by decide) ?_
        exact ih x1 (x2 + 1) H locs ls hP hS (lv_sub hl [2, 3, 0] rfl) hf
      rw [if_pos c6] at hf
      refine lv_aload_n hx hb dX3_nextOf_40 rfl (lv_at hl 1 rfl) ?_
      refine xg_7_0 hC hP tw_303 dX3_nextOf_41 ?_
      refine xg_4_0 hC hP tw_201 dX3_nextOf_44 ?_
      refine lv_iload_n hx hb dX3_nextOf_47 rfl (lv_at hl 0 rfl) ?_
      obtain ⟨g7, hf⟩ := grd_some hf
      refine xl_15 hC hP g7 dX3_nextOf_48 ?_
      refine lv_aload_n hx hb dX3_nextOf_49 rfl (lv_at hl 1 rfl) ?_
      refine xg_7_0 hC hP tw_303 dX3_nextOf_50 ?_
      refine xg_4_0 hC hP tw_201 dX3_nextOf_53 ?_
      refine lv_iload_n hx hb dX3_nextOf_56 rfl (lv_at hl 2 rfl) ?_
      obtain ⟨g8, hf⟩ := grd_some hf
      refine xl_15 hC hP g8 dX3_nextOf_57 ?_
      refine lv_ixor hx hb dX3_nextOf_58 ?_
      refine cSi (As := [.int ((σ0.2.1 6 (y3).toNatClampNeg) ^^^ (σ0.2.1 6 (x1).toNatClampNeg))]) (rest := []) hC (k_J_bc l (xw ad cI cJ) (xw_ok ad cI cJ) (ty3 cI cJ cZ) _ rfl) yy_J6_bitCount_0f7a4 tw_692 rfl rfl ⟨by decide, by decide⟩ hP hS rfl hl.1 rfl (Nat.le_of_ble_eq_true rfl) dX3_nextOf_59 (fun H locs hP hS => ?_)
      refine lv_iconst (v := 2) hx hb dX3_nextOf_62 (by decide) ?_
      refine lv_icmp_ne (tgt := 68) hx hb dX3_nextOf_63 (by decide) (fun c9 => ?_) (fun c9 => ?_)
      · rw [if_neg c9] at hf
        refine lv_iinc (v := (x2 + 1)) (lv' := [(2, .int (x2 + 1)), (3, .int y3), (0, .ref (ad 7)), (1, .int x1)]) hx hb dX3_nextOf_68 hl (k := 3) rfl rfl (by decide) rfl (fun ls hl => ?_)
        refine lv_goto (tgt := 2) hx hb dX3_nextOf_71 (by decide) ?_
        exact ih x1 (x2 + 1) H locs ls hP hS (lv_sub hl [2, 3, 0] rfl) hf
      rw [if_pos c9] at hf
      refine lv_iload_n hx hb dX3_nextOf_66 rfl (lv_at hl 0 rfl) ?_
      have h1 := Option.some.inj hf
      exact retI hx hb hr hlocks hP hS h1 rfl dX3_nextOf_67
  obtain ⟨H, hH⟩ : ∃ z, z = s.heap := ⟨_, rfl⟩
  obtain ⟨locs, hlocs⟩ : ∃ z : List Loc, z = [] := ⟨_, rfl⟩
  rw [← hH] at hP
  have hS : va_S A s.heap H locs := by rw [hH, hlocs]; exact va_S.rf
  suffices hgoal : W p l e _ s m _ below meth c H locs 0 0 _ _ by rw [hH, hlocs] at hgoal; exact hgoal
  refine lv_iconst (v := 0) hx hb dX3_nextOf_0 (by decide) ?_
  refine lv_istore_n (lv' := [(2, .int 0), (0, .ref (ad 7)), (1, .int x1)]) hx hb dX3_nextOf_1 rfl hl (by decide) rfl (fun ls hl => ?_)
  exact hw_2 N x1 0 H locs ls hP hS (lv_sub hl [1, 2, 0] rfl) hf
theorem dX3_treeAt_0 : decode cX3_treeAt 0 = .ok (.iload_n 3, 1) := by decide +kernel
theorem dX3_treeAt_1 : decode cX3_treeAt 1 = .ok (.ifCond .lt 13, 3) := by decide +kernel
theorem dX3_treeAt_4 : decode cX3_treeAt 4 = .ok (.iload_n 3, 1) := by decide +kernel
theorem dX3_treeAt_5 : decode cX3_treeAt 5 = .ok (.aload_n 0, 1) := by decide +kernel
theorem dX3_treeAt_6 : decode cX3_treeAt 6 = .ok (.iload_n 1, 1) := by decide +kernel
theorem dX3_treeAt_7 : decode cX3_treeAt 7 = .ok (.iload_n 2, 1) := by decide +kernel
theorem dX3_treeAt_8 : decode cX3_treeAt 8 = .ok (.invokevirtual 48, 3) := by decide +kernel
theorem dX3_treeAt_11 : decode cX3_treeAt 11 = .ok (.if_icmp .le 5, 3) := by decide +kernel
theorem dX3_treeAt_14 : decode cX3_treeAt 14 = .ok (.iconst (-1), 1) := by decide +kernel
theorem dX3_treeAt_15 : decode cX3_treeAt 15 = .ok (.ireturn, 1) := by decide +kernel
theorem dX3_treeAt_16 : decode cX3_treeAt 16 = .ok (.iload_n 1, 1) := by decide +kernel
theorem dX3_treeAt_17 : decode cX3_treeAt 17 = .ok (.istore 4, 2) := by decide +kernel
theorem dX3_treeAt_19 : decode cX3_treeAt 19 = .ok (.iconst 0, 1) := by decide +kernel
theorem dX3_treeAt_20 : decode cX3_treeAt 20 = .ok (.istore 5, 2) := by decide +kernel
theorem dX3_treeAt_22 : decode cX3_treeAt 22 = .ok (.iload 5, 2) := by decide +kernel
theorem dX3_treeAt_24 : decode cX3_treeAt 24 = .ok (.iload_n 3, 1) := by decide +kernel
theorem dX3_treeAt_25 : decode cX3_treeAt 25 = .ok (.if_icmp .ge 17, 3) := by decide +kernel
theorem dX3_treeAt_28 : decode cX3_treeAt 28 = .ok (.aload_n 0, 1) := by decide +kernel
theorem dX3_treeAt_29 : decode cX3_treeAt 29 = .ok (.iload 4, 2) := by decide +kernel
theorem dX3_treeAt_31 : decode cX3_treeAt 31 = .ok (.invokevirtual 52, 3) := by decide +kernel
theorem dX3_treeAt_34 : decode cX3_treeAt 34 = .ok (.istore 4, 2) := by decide +kernel
theorem dX3_treeAt_36 : decode cX3_treeAt 36 = .ok (.iinc 5 1, 3) := by decide +kernel
theorem dX3_treeAt_39 : decode cX3_treeAt 39 = .ok (.goto (-17), 3) := by decide +kernel
theorem dX3_treeAt_42 : decode cX3_treeAt 42 = .ok (.aload_n 0, 1) := by decide +kernel
theorem dX3_treeAt_43 : decode cX3_treeAt 43 = .ok (.getfield 26, 3) := by decide +kernel
theorem dX3_treeAt_46 : decode cX3_treeAt 46 = .ok (.getfield 56, 3) := by decide +kernel
theorem dX3_treeAt_49 : decode cX3_treeAt 49 = .ok (.iload 4, 2) := by decide +kernel
theorem dX3_treeAt_51 : decode cX3_treeAt 51 = .ok (.iaload, 1) := by decide +kernel
theorem dX3_treeAt_52 : decode cX3_treeAt 52 = .ok (.ireturn, 1) := by decide +kernel
def Rt_treeAt_22 (N : Nat) (k_42 : Int32 → St → Option (Int32 × St)) : Nat → Int32 → Int32 → Int32 → St → Option (Int32 × St)
  | 0, _, _, _, _ => none
  | n + 1, x3, x4, x5, σ => if x3 ≤ x5 then k_42 x4 σ else bnd (Rt_nextOf N x4 σ) (fun y2 => Rt_treeAt_22 N k_42 n x3 y2 (x5 + 1) σ)
theorem Rt_treeAt_22_s (N : Nat) (k_42 : Int32 → St → Option (Int32 × St)) (n : Nat) (x3 : Int32) (x4 : Int32) (x5 : Int32) (σ : St) : Rt_treeAt_22 N k_42 (n + 1) x3 x4 x5 σ = if x3 ≤ x5 then k_42 x4 σ else bnd (Rt_nextOf N x4 σ) (fun y2 => Rt_treeAt_22 N k_42 n x3 y2 (x5 + 1) σ) := rfl
def Rt_treeAt_42 (N : Nat) (x4 : Int32) (σ : St) : Option (Int32 × St) := grd (inb x4 1280) (some ((σ.2.1 6 (x4).toNatClampNeg), σ))
def Rt_treeAt (N : Nat) (x1 : Int32) (x2 : Int32) (x3 : Int32) (σ0 : St) : Option (Int32 × St) := if x3 < 0 then some ((-1), σ0) else bnd2 (Rt_length N x1 x2 σ0) (fun y5 σ6 => if x3 ≤ y5 then Rt_treeAt_22 N (Rt_treeAt_42 N) N x3 x1 0 σ6 else some ((-1), σ6))
abbrev rm_Rt_treeAt : Room := { frames := 7, cells := 0, slots := 0, locals := 153 }
set_option maxHeartbeats 4000000 in
set_option maxRecDepth 100000 in
theorem k_Rt_treeAt (l : Launch) (ad : Nat → Nat) (cI cJ cZ : ClassId) {N : Nat} {x1 : Int32} {x2 : Int32} {x3 : Int32} {σ0 : St} {r : Int32} {τ : St} (hf : Rt_treeAt N x1 x2 x3 σ0 = some (r, τ)) : CtI l yX3_treeAt (gws (.code yX3_treeAt cX3_treeAt 6 (some .int))) (rm_Rt_treeAt) (ty3 cI cJ cZ) (xw ad cI cJ) [.ref (ad 7), .int x1, .int x2, .int x3] σ0 r τ := by
  refine CtI.of (by decide) (xw_ok ad cI cJ) (Nat.le_of_ble_eq_true rfl) ?_
  generalize hav : ([.ref (ad 7), .int x1, .int x2, .int x3] : List Value) = av
  intro p e s m below meth c D A hC ls hl hP hS
  obtain ⟨hx, hb, hr, hlocks, hml, hown, hts, hK, hN, hD, hA⟩ := id hC
  rw [← hav] at hl
  have hl : lv_has ls 6 [(0, .ref (ad 7)), (1, .int x1), (2, .int x2), (3, .int x3)] := hl
  unfold Rt_treeAt at hf
  have hw_22 : ∀ (k_42 : Int32 → St → Option (Int32 × St)) (hk_42 : ∀ (x4 : Int32) (σ : St) (H : Heap) (locs : List Loc) (ls : Array Slot), va_P D vwCl ((xw ad cI cJ) σ) H → va_S A s.heap H locs → lv_has ls 6 [(0, .ref (ad 7)), (4, .int x4)] → k_42 x4 σ = some (r, τ) → W p l e (rm_Rt_treeAt) s m av.toArray below meth c H locs 0 0 (QI below av.toArray s D A (xw ad cI cJ) r τ) (F0 m 42 ls [])), ∀ (n : Nat), ∀ (x3 : Int32) (x4 : Int32) (x5 : Int32) (σ : St) (H : Heap) (locs : List Loc) (ls : Array Slot), va_P D vwCl ((xw ad cI cJ) σ) H → va_S A s.heap H locs → lv_has ls 6 [(0, .ref (ad 7)), (3, .int x3), (4, .int x4), (5, .int x5)] → Rt_treeAt_22 N k_42 n x3 x4 x5 σ = some (r, τ) → W p l e (rm_Rt_treeAt) s m av.toArray below meth c H locs 0 0 (QI below av.toArray s D A (xw ad cI cJ) r τ) (F0 m 22 ls []) := by
    intro k_42 hk_42
    intro n
    induction n with
    | zero =>
      intro x3 x4 x5 σ H locs ls hP hS hl hf
      cases hf
    | succ n ih =>
      intro x3 x4 x5 σ H locs ls hP hS hl hf
      rw [Rt_treeAt_22_s] at hf
      refine lv_iload hx hb dX3_treeAt_22 (lv_at hl 3 rfl) ?_
      refine lv_iload_n hx hb dX3_treeAt_24 rfl (lv_at hl 1 rfl) ?_
      refine lv_icmp_ge (tgt := 42) hx hb dX3_treeAt_25 (by decide) (fun c1 => ?_) (fun c1 => ?_)
      · rw [if_pos c1] at hf
        exact hk_42 x4 σ H locs ls hP hS (lv_sub hl [0, 2] rfl) hf
      rw [if_neg c1] at hf
      refine lv_aload_n hx hb dX3_treeAt_28 rfl (lv_at hl 0 rfl) ?_
      refine lv_iload hx hb dX3_treeAt_29 (lv_at hl 2 rfl) ?_
      obtain ⟨y2, hcy2, hf⟩ := bnd_some hf
      refine cVi (As := [.int x4]) (rest := []) hC (k_Rt_nextOf l ad cI cJ cZ hcy2) yy_X3_nextOf tw_688 rfl rfl ⟨by decide, by decide⟩ hP hS (q0 := 7) (ci := 3) rfl rfl (xwa_7 ..) rfl hl.1 rfl (Nat.le_of_ble_eq_true rfl) dX3_treeAt_31 (fun H locs hP hS => ?_)
      refine lv_istore (lv' := [(4, .int y2), (0, .ref (ad 7)), (3, .int x3), (5, .int x5)]) hx hb dX3_treeAt_34 hl (by decide) rfl (fun ls hl => ?_)
      refine lv_iinc (v := (x5 + 1)) (lv' := [(5, .int (x5 + 1)), (4, .int y2), (0, .ref (ad 7)), (3, .int x3)]) hx hb dX3_treeAt_36 hl (k := 3) rfl rfl (by decide) rfl (fun ls hl => ?_)
      refine lv_goto (tgt := 22) hx hb dX3_treeAt_39 (by decide) ?_
      exact ih x3 y2 (x5 + 1) σ H locs ls hP hS (lv_sub hl [2, 3, 1, 0] rfl) hf
  have hw_42 : ∀ (x4 : Int32) (σ : St) (H : Heap) (locs : List Loc) (ls : Array Slot), va_P D vwCl ((xw ad cI cJ) σ) H → va_S A s.heap H locs → lv_has ls 6 [(0, .ref (ad 7)), (4, .int x4)] → Rt_treeAt_42 N x4 σ = some (r, τ) → W p l e (rm_Rt_treeAt) s m av.toArray below meth c H locs 0 0 (QI below av.toArray s D A (xw ad cI cJ) r τ) (F0 m 42 ls []) := by
    intro x4 σ H locs ls hP hS hl hf
    unfold Rt_treeAt_42 at hf
    refine lv_aload_n hx hb dX3_treeAt_42 rfl (lv_at hl 0 rfl) ?_
    refine xg_7_0 hC hP tw_303 dX3_treeAt_43 ?_
    refine xg_4_0 hC hP tw_201 dX3_treeAt_46 ?_
    refine lv_iload hx hb dX3_treeAt_49 (lv_at hl 1 rfl) ?_
    obtain ⟨g3, hf⟩ := grd_some hf
    refine xl_15 hC hP g3 dX3_treeAt_51 ?_
    obtain ⟨h1, h2⟩ := ret2 hf
    exact retI hx hb hr hlocks hP hS h1 h2 dX3_treeAt_52
  obtain ⟨H, hH⟩ : ∃ z, z = s.heap := ⟨_, rfl⟩
  obtain ⟨locs, hlocs⟩ : ∃ z : List Loc, z = [] := ⟨_, rfl⟩
  rw [← hH] at hP
  have hS : va_S A s.heap H locs := by rw [hH, hlocs]; exact va_S.rf
  suffices hgoal : W p l e _ s m _ below meth c H locs 0 0 _ _ by rw [hH, hlocs] at hgoal; exact hgoal
  refine lv_iload_n hx hb dX3_treeAt_0 rfl (lv_at hl 3 rfl) ?_
  refine lv_if_lt (tgt := 14) hx hb dX3_treeAt_1 (by decide) (fun c4 => ?_) (fun c4 => ?_)
  · rw [if_pos c4] at hf
    refine lv_iconst (v := (-1)) hx hb dX3_treeAt_14 (by decide) ?_
    obtain ⟨h1, h2⟩ := ret2 hf
    exact retI hx hb hr hlocks hP hS h1 h2 dX3_treeAt_15
  rw [if_neg c4] at hf
  refine lv_iload_n hx hb dX3_treeAt_4 rfl (lv_at hl 3 rfl) ?_
  refine lv_aload_n hx hb dX3_treeAt_5 rfl (lv_at hl 0 rfl) ?_
  refine lv_iload_n hx hb dX3_treeAt_6 rfl (lv_at hl 1 rfl) ?_
  refine lv_iload_n hx hb dX3_treeAt_7 rfl (lv_at hl 2 rfl) ?_
  obtain ⟨y5, σ6, hcy5, hf⟩ := bnd2_some hf
  refine cVi (As := [.int x1, .int x2]) (rest := [.int x3]) hC (k_Rt_length l ad cI cJ cZ hcy5) yy_X3_length tw_687 rfl rfl ⟨by decide, by decide⟩ hP hS (q0 := 7) (ci := 3) rfl rfl (xwa_7 ..) rfl hl.1 rfl (Nat.le_of_ble_eq_true rfl) dX3_treeAt_8 (fun H locs hP hS => ?_)
  refine lv_icmp_le (tgt := 16) hx hb dX3_treeAt_11 (by decide) (fun c7 => ?_) (fun c7 => ?_)
  · rw [if_pos c7] at hf
    refine lv_iload_n hx hb dX3_treeAt_16 rfl (lv_at hl 1 rfl) ?_
    refine lv_istore (lv' := [(4, .int x1), (0, .ref (ad 7)), (1, .int x1), (2, .int x2), (3, .int x3)]) hx hb dX3_treeAt_17 hl (by decide) rfl (fun ls hl => ?_)
    refine lv_iconst (v := 0) hx hb dX3_treeAt_19 (by decide) ?_
    refine lv_istore (lv' := [(5, .int 0), (4, .int x1), (0, .ref (ad 7)), (1, .int x1), (2, .int x2), (3, .int x3)]) hx hb dX3_treeAt_20 hl (by decide) rfl (fun ls hl => ?_)
    exact hw_22 (Rt_treeAt_42 N) hw_42 N x3 x1 0 σ6 H locs ls hP hS (lv_sub hl [2, 5, 1, 0] rfl) hf
  rw [if_neg c7] at hf
  refine lv_iconst (v := (-1)) hx hb dX3_treeAt_14 (by decide) ?_
  obtain ⟨h1, h2⟩ := ret2 hf
  exact retI hx hb hr hlocks hP hS h1 h2 dX3_treeAt_15
