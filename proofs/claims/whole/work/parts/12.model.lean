/-! walks laid by program (gen.py, walk.py): 12.model -/
theorem dX8_lies_0 : decode cX8_lies 0 = .ok (.iload_n 0, 1) := by decide +kernel
theorem dX8_lies_1 : decode cX8_lies 1 = .ok (.iload_n 1, 1) := by decide +kernel
theorem dX8_lies_2 : decode cX8_lies 2 = .ok (.if_icmp .lt 12, 3) := by decide +kernel
theorem dX8_lies_5 : decode cX8_lies 5 = .ok (.iload_n 0, 1) := by decide +kernel
theorem dX8_lies_6 : decode cX8_lies 6 = .ok (.iload_n 2, 1) := by decide +kernel
theorem dX8_lies_7 : decode cX8_lies 7 = .ok (.if_icmp .gt 7, 3) := by decide +kernel
theorem dX8_lies_10 : decode cX8_lies 10 = .ok (.iconst 1, 1) := by decide +kernel
theorem dX8_lies_11 : decode cX8_lies 11 = .ok (.goto 4, 3) := by decide +kernel
theorem dX8_lies_14 : decode cX8_lies 14 = .ok (.iconst 0, 1) := by decide +kernel
theorem dX8_lies_15 : decode cX8_lies 15 = .ok (.ireturn, 1) := by decide +kernel
def M_lies (x0 : Int32) (x1 : Int32) (x2 : Int32) : Int32 := if x0 < x1 then 0 else if x2 < x0 then 0 else 1
abbrev rm_M_lies : Room := { frames := 0, cells := 0, slots := 0, locals := 0 }
set_option maxHeartbeats 4000000 in
set_option maxRecDepth 100000 in
theorem k_M_lies (l : Launch) (ω : St → va_W) (hω : wA ω) (tys : List (ClassId × FieldType)) (σ0 : St) {x0 : Int32} {x1 : Int32} {x2 : Int32} {r : Int32} (hf : M_lies x0 x1 x2 = r) : CtI l yX8_lies (gws (.code yX8_lies cX8_lies 3 (some .boolean))) (rm_M_lies) tys ω [.int x0, .int x1, .int x2] σ0 r σ0 := by
  refine CtI.of (by decide) hω (Nat.le_of_ble_eq_true rfl) ?_
  generalize hav : ([.int x0, .int x1, .int x2] : List Value) = av
  intro p e s m below meth c D A hC ls hl hP hS
  obtain ⟨hx, hb, hr, hlocks, hml, hown, hts, hK, hN, hD, hA⟩ := id hC
  rw [← hav] at hl
  have hl : lv_has ls 3 [(0, .int x0), (1, .int x1), (2, .int x2)] := hl
  unfold M_lies at hf
  obtain ⟨H, hH⟩ : ∃ z, z = s.heap := ⟨_, rfl⟩
  obtain ⟨locs, hlocs⟩ : ∃ z : List Loc, z = [] := ⟨_, rfl⟩
  rw [← hH] at hP
  have hS : va_S A s.heap H locs := by rw [hH, hlocs]; exact va_S.rf
  suffices hgoal : W p l e _ s m _ below meth c H locs 0 0 _ _ by rw [hH, hlocs] at hgoal; exact hgoal
  refine lv_iload_n hx hb dX8_lies_0 rfl (lv_at hl 0 rfl) ?_
  refine lv_iload_n hx hb dX8_lies_1 rfl (lv_at hl 1 rfl) ?_
  refine lv_icmp_lt (tgt := 14) hx hb dX8_lies_2 (by decide) (fun c1 => ?_) (fun c1 => ?_)
  · rw [if_pos c1] at hf
    refine lv_iconst (v := 0) hx hb dX8_lies_14 (by decide) ?_
    have h1 := hf
    exact retZ hx hb hr hlocks hP hS (Or.inl rfl) h1 rfl dX8_lies_15
  rw [if_neg c1] at hf
  refine lv_iload_n hx hb dX8_lies_5 rfl (lv_at hl 0 rfl) ?_
  refine lv_iload_n hx hb dX8_lies_6 rfl (lv_at hl 2 rfl) ?_
  refine lv_icmp_gt (tgt := 14) hx hb dX8_lies_7 (by decide) (fun c2 => ?_) (fun c2 => ?_)
  · rw [if_pos c2] at hf
    refine lv_iconst (v := 0) hx hb dX8_lies_14 (by decide) ?_
    have h1 := hf
    exact retZ hx hb hr hlocks hP hS (Or.inl rfl) h1 rfl dX8_lies_15
  rw [if_neg c2] at hf
  refine lv_iconst (v := 1) hx hb dX8_lies_10 (by decide) ?_
  refine lv_goto (tgt := 15) hx hb dX8_lies_11 (by decide) ?_
  have h1 := hf
  exact retZ hx hb hr hlocks hP hS (Or.inr rfl) h1 rfl dX8_lies_15
theorem M_lies_01 (x0 : Int32) (x1 : Int32) (x2 : Int32) : M_lies x0 x1 x2 = 0 ∨ M_lies x0 x1 x2 = 1 := by
  unfold M_lies
  repeat (first | exact Or.inl rfl | exact Or.inr rfl | split)
theorem dX8_has_0 : decode cX8_has 0 = .ok (.iload_n 0, 1) := by decide +kernel
theorem dX8_has_1 : decode cX8_has 1 = .ok (.iload_n 1, 1) := by decide +kernel
theorem dX8_has_2 : decode cX8_has 2 = .ok (.ishr, 1) := by decide +kernel
theorem dX8_has_3 : decode cX8_has 3 = .ok (.iconst 1, 1) := by decide +kernel
theorem dX8_has_4 : decode cX8_has 4 = .ok (.iand, 1) := by decide +kernel
theorem dX8_has_5 : decode cX8_has 5 = .ok (.iconst 1, 1) := by decide +kernel
theorem dX8_has_6 : decode cX8_has 6 = .ok (.if_icmp .ne 7, 3) := by decide +kernel
theorem dX8_has_9 : decode cX8_has 9 = .ok (.iconst 1, 1) := by decide +kernel
theorem dX8_has_10 : decode cX8_has 10 = .ok (.goto 4, 3) := by decide +kernel
theorem dX8_has_13 : decode cX8_has 13 = .ok (.iconst 0, 1) := by decide +kernel
theorem dX8_has_14 : decode cX8_has 14 = .ok (.ireturn, 1) := by decide +kernel
def M_has (x0 : Int32) (x1 : Int32) : Int32 := if ((x0 >>> (x1 &&& 31)) &&& 1) = 1 then 1 else 0
abbrev rm_M_has : Room := { frames := 0, cells := 0, slots := 0, locals := 0 }
set_option maxHeartbeats 4000000 in
set_option maxRecDepth 100000 in
theorem k_M_has (l : Launch) (ω : St → va_W) (hω : wA ω) (tys : List (ClassId × FieldType)) (σ0 : St) {x0 : Int32} {x1 : Int32} {r : Int32} (hf : M_has x0 x1 = r) : CtI l yX8_has (gws (.code yX8_has cX8_has 2 (some .boolean))) (rm_M_has) tys ω [.int x0, .int x1] σ0 r σ0 := by
  refine CtI.of (by decide) hω (Nat.le_of_ble_eq_true rfl) ?_
  generalize hav : ([.int x0, .int x1] : List Value) = av
  intro p e s m below meth c D A hC ls hl hP hS
  obtain ⟨hx, hb, hr, hlocks, hml, hown, hts, hK, hN, hD, hA⟩ := id hC
  rw [← hav] at hl
  have hl : lv_has ls 2 [(0, .int x0), (1, .int x1)] := hl
  unfold M_has at hf
  obtain ⟨H, hH⟩ : ∃ z, z = s.heap := ⟨_, rfl⟩
  obtain ⟨locs, hlocs⟩ : ∃ z : List Loc, z = [] := ⟨_, rfl⟩
  rw [← hH] at hP
  have hS : va_S A s.heap H locs := by rw [hH, hlocs]; exact va_S.rf
  suffices hgoal : W p l e _ s m _ below meth c H locs 0 0 _ _ by rw [hH, hlocs] at hgoal; exact hgoal
  refine lv_iload_n hx hb dX8_has_0 rfl (lv_at hl 0 rfl) ?_
  refine lv_iload_n hx hb dX8_has_1 rfl (lv_at hl 1 rfl) ?_
  refine lv_ishr hx hb dX8_has_2 ?_
  refine lv_iconst (v := 1) hx hb dX8_has_3 (by decide) ?_
  refine lv_iand hx hb dX8_has_4 ?_
  refine lv_iconst (v := 1) hx hb dX8_has_5 (by decide) ?_
  refine lv_icmp_ne (tgt := 13) hx hb dX8_has_6 (by decide) (fun c1 => ?_) (fun c1 => ?_)
  · rw [if_neg c1] at hf
    refine lv_iconst (v := 0) hx hb dX8_has_13 (by decide) ?_
    have h1 := hf
    exact retZ hx hb hr hlocks hP hS (Or.inl rfl) h1 rfl dX8_has_14
  rw [if_pos c1] at hf
  refine lv_iconst (v := 1) hx hb dX8_has_9 (by decide) ?_
  refine lv_goto (tgt := 14) hx hb dX8_has_10 (by decide) ?_
  have h1 := hf
  exact retZ hx hb hr hlocks hP hS (Or.inr rfl) h1 rfl dX8_has_14
theorem M_has_01 (x0 : Int32) (x1 : Int32) : M_has x0 x1 = 0 ∨ M_has x0 x1 = 1 := by
  unfold M_has
  repeat (first | exact Or.inl rfl | exact Or.inr rfl | split)
theorem dX8_sizeOf_0 : decode cX8_sizeOf 0 = .ok (.iconst 0, 1) := by decide +kernel
theorem dX8_sizeOf_1 : decode cX8_sizeOf 1 = .ok (.istore_n 1, 1) := by decide +kernel
theorem dX8_sizeOf_2 : decode cX8_sizeOf 2 = .ok (.iload_n 0, 1) := by decide +kernel
theorem dX8_sizeOf_3 : decode cX8_sizeOf 3 = .ok (.istore_n 2, 1) := by decide +kernel
theorem dX8_sizeOf_4 : decode cX8_sizeOf 4 = .ok (.iload_n 2, 1) := by decide +kernel
theorem dX8_sizeOf_5 : decode cX8_sizeOf 5 = .ok (.ifCond .eq 15, 3) := by decide +kernel
theorem dX8_sizeOf_8 : decode cX8_sizeOf 8 = .ok (.iinc 1 1, 3) := by decide +kernel
theorem dX8_sizeOf_11 : decode cX8_sizeOf 11 = .ok (.iload_n 2, 1) := by decide +kernel
theorem dX8_sizeOf_12 : decode cX8_sizeOf 12 = .ok (.iload_n 2, 1) := by decide +kernel
theorem dX8_sizeOf_13 : decode cX8_sizeOf 13 = .ok (.iconst 1, 1) := by decide +kernel
theorem dX8_sizeOf_14 : decode cX8_sizeOf 14 = .ok (.isub, 1) := by decide +kernel
theorem dX8_sizeOf_15 : decode cX8_sizeOf 15 = .ok (.iand, 1) := by decide +kernel
theorem dX8_sizeOf_16 : decode cX8_sizeOf 16 = .ok (.istore_n 2, 1) := by decide +kernel
theorem dX8_sizeOf_17 : decode cX8_sizeOf 17 = .ok (.goto (-13), 3) := by decide +kernel
theorem dX8_sizeOf_20 : decode cX8_sizeOf 20 = .ok (.iload_n 1, 1) := by decide +kernel
theorem dX8_sizeOf_21 : decode cX8_sizeOf 21 = .ok (.ireturn, 1) := by decide +kernel
def M_sizeOf_4 (N : Nat) : Nat → Int32 → Int32 → Option (Int32)
  | 0, _, _ => none
  | n + 1, x1, x2 => if x2 = 0 then some x1 else M_sizeOf_4 N n (x1 + 1) (x2 &&& (x2 - 1))
theorem M_sizeOf_4_s (N : Nat) (n : Nat) (x1 : Int32) (x2 : Int32) : M_sizeOf_4 N (n + 1) x1 x2 = if x2 = 0 then some x1 else M_sizeOf_4 N n (x1 + 1) (x2 &&& (x2 - 1)) := rfl
def M_sizeOf (N : Nat) (x0 : Int32) : Option (Int32) := M_sizeOf_4 N N 0 x0
abbrev rm_M_sizeOf : Room := { frames := 0, cells := 0, slots := 0, locals := 0 }
set_option maxHeartbeats 4000000 in
set_option maxRecDepth 100000 in
theorem k_M_sizeOf (l : Launch) (ω : St → va_W) (hω : wA ω) (tys : List (ClassId × FieldType)) (σ0 : St) {N : Nat} {x0 : Int32} {r : Int32} (hf : M_sizeOf N x0 = some r) : CtI l yX8_sizeOf (gws (.code yX8_sizeOf cX8_sizeOf 3 (some .int))) (rm_M_sizeOf) tys ω [.int x0] σ0 r σ0 := by
  refine CtI.of (by decide) hω (Nat.le_of_ble_eq_true rfl) ?_
  generalize hav : ([.int x0] : List Value) = av
  intro p e s m below meth c D A hC ls hl hP hS
  obtain ⟨hx, hb, hr, hlocks, hml, hown, hts, hK, hN, hD, hA⟩ := id hC
  rw [← hav] at hl
  have hl : lv_has ls 3 [(0, .int x0)] := hl
  unfold M_sizeOf at hf
  have hw_4 : ∀ (n : Nat), ∀ (x1 : Int32) (x2 : Int32) (H : Heap) (locs : List Loc) (ls : Array Slot), va_P D vwCl (ω σ0) H → va_S A s.heap H locs → lv_has ls 3 [(1, .int x1), (2, .int x2)] → M_sizeOf_4 N n x1 x2 = some r → W p l e (rm_M_sizeOf) s m av.toArray below meth c H locs 0 0 (QI below av.toArray s D A ω r σ0) (F0 m 4 ls []) := by
    intro n
    induction n with
    | zero =>
      intro x1 x2 H locs ls hP hS hl hf
      cases hf
    | succ n ih =>
      intro x1 x2 H locs ls hP hS hl hf
      rw [M_sizeOf_4_s] at hf
      refine lv_iload_n hx hb dX8_sizeOf_4 rfl (lv_at hl 1 rfl) ?_
      refine lv_if_eq (tgt := 20) hx hb dX8_sizeOf_5 (by decide) (fun c1 => ?_) (fun c1 => ?_)
      · rw [if_pos c1] at hf
        refine lv_iload_n hx hb dX8_sizeOf_20 rfl (lv_at hl 0 rfl) ?_
        have h1 := Option.some.inj hf
        exact retI hx hb hr hlocks hP hS h1 rfl dX8_sizeOf_21
      rw [if_neg c1] at hf
      refine lv_iinc (v := (x1 + 1)) (lv' := [(1, .int (x1 + 1)), (2, .int x2)]) hx hb dX8_sizeOf_8 hl (k := 0) rfl rfl (by decide) rfl (fun ls hl => ?_)
      refine lv_iload_n hx hb dX8_sizeOf_11 rfl (lv_at hl 1 rfl) ?_
      refine lv_iload_n hx hb dX8_sizeOf_12 rfl (lv_at hl 1 rfl) ?_
      refine lv_iconst (v := 1) hx hb dX8_sizeOf_13 (by decide) ?_
      refine lv_isub hx hb dX8_sizeOf_14 ?_
      refine lv_iand hx hb dX8_sizeOf_15 ?_
      refine lv_istore_n (lv' := [(2, .int (x2 &&& (x2 - 1))), (1, .int (x1 + 1))]) hx hb dX8_sizeOf_16 rfl hl (by decide) rfl (fun ls hl => ?_)
      refine lv_goto (tgt := 4) hx hb dX8_sizeOf_17 (by decide) ?_
      exact ih (x1 + 1) (x2 &&& (x2 - 1)) H locs ls hP hS (lv_sub hl [1, 0] rfl) hf
  obtain ⟨H, hH⟩ : ∃ z, z = s.heap := ⟨_, rfl⟩
  obtain ⟨locs, hlocs⟩ : ∃ z : List Loc, z = [] := ⟨_, rfl⟩
  rw [← hH] at hP
  have hS : va_S A s.heap H locs := by rw [hH, hlocs]; exact va_S.rf
  suffices hgoal : W p l e _ s m _ below meth c H locs 0 0 _ _ by rw [hH, hlocs] at hgoal; exact hgoal
  refine lv_iconst (v := 0) hx hb dX8_sizeOf_0 (by decide) ?_
  refine lv_istore_n (lv' := [(1, .int 0), (0, .int x0)]) hx hb dX8_sizeOf_1 rfl hl (by decide) rfl (fun ls hl => ?_)
  refine lv_iload_n hx hb dX8_sizeOf_2 rfl (lv_at hl 1 rfl) ?_
  refine lv_istore_n (lv' := [(2, .int x0), (1, .int 0), (0, .int x0)]) hx hb dX8_sizeOf_3 rfl hl (by decide) rfl (fun ls hl => ?_)
  exact hw_4 N 0 x0 H locs ls hP hS (lv_sub hl [1, 0] rfl) hf
theorem dX8_isPost_0 : decode cX8_isPost 0 = .ok (.iload_n 1, 1) := by decide +kernel
theorem dX8_isPost_1 : decode cX8_isPost 1 = .ok (.iconst 0, 1) := by decide +kernel
theorem dX8_isPost_2 : decode cX8_isPost 2 = .ok (.aload_n 0, 1) := by decide +kernel
theorem dX8_isPost_3 : decode cX8_isPost 3 = .ok (.getfield 7, 3) := by decide +kernel
theorem dX8_isPost_6 : decode cX8_isPost 6 = .ok (.iconst 1, 1) := by decide +kernel
theorem dX8_isPost_7 : decode cX8_isPost 7 = .ok (.isub, 1) := by decide +kernel
theorem dX8_isPost_8 : decode cX8_isPost 8 = .ok (.invokestatic 100, 3) := by decide +kernel
theorem dX8_isPost_11 : decode cX8_isPost 11 = .ok (.ireturn, 1) := by decide +kernel
def M_isPost (x1 : Int32) (σ0 : St) : Int32 := (M_lies x1 0 ((σ0.1 0) - 1))
abbrev rm_M_isPost : Room := { frames := 1, cells := 0, slots := 0, locals := 22 }
set_option maxHeartbeats 4000000 in
set_option maxRecDepth 100000 in
theorem k_M_isPost (l : Launch) (ad : Nat → Nat) (cI cJ cZ : ClassId) {x1 : Int32} {σ0 : St} {r : Int32} (hf : M_isPost x1 σ0 = r) : CtI l yX8_isPost (gws (.code yX8_isPost cX8_isPost 2 (some .boolean))) (rm_M_isPost) (ty3 cI cJ cZ) (mw ad cI cZ) [.ref (ad 0), .int x1] σ0 r σ0 := by
  refine CtI.of (by decide) (mw_ok ad cI cZ) (Nat.le_of_ble_eq_true rfl) ?_
  generalize hav : ([.ref (ad 0), .int x1] : List Value) = av
  intro p e s m below meth c D A hC ls hl hP hS
  obtain ⟨hx, hb, hr, hlocks, hml, hown, hts, hK, hN, hD, hA⟩ := id hC
  rw [← hav] at hl
  have hl : lv_has ls 2 [(0, .ref (ad 0)), (1, .int x1)] := hl
  unfold M_isPost at hf
  obtain ⟨H, hH⟩ : ∃ z, z = s.heap := ⟨_, rfl⟩
  obtain ⟨locs, hlocs⟩ : ∃ z : List Loc, z = [] := ⟨_, rfl⟩
  rw [← hH] at hP
  have hS : va_S A s.heap H locs := by rw [hH, hlocs]; exact va_S.rf
  suffices hgoal : W p l e _ s m _ below meth c H locs 0 0 _ _ by rw [hH, hlocs] at hgoal; exact hgoal
  refine lv_iload_n hx hb dX8_isPost_0 rfl (lv_at hl 1 rfl) ?_
  refine lv_iconst (v := 0) hx hb dX8_isPost_1 (by decide) ?_
  refine lv_aload_n hx hb dX8_isPost_2 rfl (lv_at hl 0 rfl) ?_
  refine mg_0_0 hC hP tw_719 dX8_isPost_3 ?_
  refine lv_iconst (v := 1) hx hb dX8_isPost_6 (by decide) ?_
  refine lv_isub hx hb dX8_isPost_7 ?_
  refine cSi (As := [.int x1, .int 0, .int ((σ0.1 0) - 1)]) (rest := []) hC (k_M_lies l (mw ad cI cZ) (mw_ok ad cI cZ) (ty3 cI cJ cZ) _ rfl) yy_X8_lies tw_815 rfl rfl ⟨by decide, by decide⟩ hP hS rfl hl.1 rfl (Nat.le_of_ble_eq_true rfl) dX8_isPost_8 (fun H locs hP hS => ?_)
  have h1 := hf
  exact retZ hx hb hr hlocks hP hS (by exact M_lies_01 ..) h1 rfl dX8_isPost_11
theorem M_isPost_01 (x1 : Int32) (σ0 : St) : M_isPost x1 σ0 = 0 ∨ M_isPost x1 σ0 = 1 := by
  unfold M_isPost
  repeat (first | exact Or.inl rfl | exact Or.inr rfl | exact M_lies_01 .. | split)
theorem dX8_isLine_0 : decode cX8_isLine 0 = .ok (.iload_n 1, 1) := by decide +kernel
theorem dX8_isLine_1 : decode cX8_isLine 1 = .ok (.iconst 0, 1) := by decide +kernel
theorem dX8_isLine_2 : decode cX8_isLine 2 = .ok (.aload_n 0, 1) := by decide +kernel
theorem dX8_isLine_3 : decode cX8_isLine 3 = .ok (.getfield 87, 3) := by decide +kernel
theorem dX8_isLine_6 : decode cX8_isLine 6 = .ok (.iconst 1, 1) := by decide +kernel
theorem dX8_isLine_7 : decode cX8_isLine 7 = .ok (.isub, 1) := by decide +kernel
theorem dX8_isLine_8 : decode cX8_isLine 8 = .ok (.invokestatic 100, 3) := by decide +kernel
theorem dX8_isLine_11 : decode cX8_isLine 11 = .ok (.ireturn, 1) := by decide +kernel
def M_isLine (x1 : Int32) (σ0 : St) : Int32 := (M_lies x1 0 ((σ0.1 1) - 1))
abbrev rm_M_isLine : Room := { frames := 1, cells := 0, slots := 0, locals := 22 }
set_option maxHeartbeats 4000000 in
set_option maxRecDepth 100000 in
theorem k_M_isLine (l : Launch) (ad : Nat → Nat) (cI cJ cZ : ClassId) {x1 : Int32} {σ0 : St} {r : Int32} (hf : M_isLine x1 σ0 = r) : CtI l yX8_isLine (gws (.code yX8_isLine cX8_isLine 2 (some .boolean))) (rm_M_isLine) (ty3 cI cJ cZ) (mw ad cI cZ) [.ref (ad 0), .int x1] σ0 r σ0 := by
  refine CtI.of (by decide) (mw_ok ad cI cZ) (Nat.le_of_ble_eq_true rfl) ?_
  generalize hav : ([.ref (ad 0), .int x1] : List Value) = av
  intro p e s m below meth c D A hC ls hl hP hS
  obtain ⟨hx, hb, hr, hlocks, hml, hown, hts, hK, hN, hD, hA⟩ := id hC
  rw [← hav] at hl
  have hl : lv_has ls 2 [(0, .ref (ad 0)), (1, .int x1)] := hl
  unfold M_isLine at hf
  obtain ⟨H, hH⟩ : ∃ z, z = s.heap := ⟨_, rfl⟩
  obtain ⟨locs, hlocs⟩ : ∃ z : List Loc, z = [] := ⟨_, rfl⟩
  rw [← hH] at hP
  have hS : va_S A s.heap H locs := by rw [hH, hlocs]; exact va_S.rf
  suffices hgoal : W p l e _ s m _ below meth c H locs 0 0 _ _ by rw [hH, hlocs] at hgoal; exact hgoal
  refine lv_iload_n hx hb dX8_isLine_0 rfl (lv_at hl 1 rfl) ?_
  refine lv_iconst (v := 0) hx hb dX8_isLine_1 (by decide) ?_
  refine lv_aload_n hx hb dX8_isLine_2 rfl (lv_at hl 0 rfl) ?_
  refine mg_0_1 hC hP tw_720 dX8_isLine_3 ?_
  refine lv_iconst (v := 1) hx hb dX8_isLine_6 (by decide) ?_
  refine lv_isub hx hb dX8_isLine_7 ?_
  refine cSi (As := [.int x1, .int 0, .int ((σ0.1 1) - 1)]) (rest := []) hC (k_M_lies l (mw ad cI cZ) (mw_ok ad cI cZ) (ty3 cI cJ cZ) _ rfl) yy_X8_lies tw_815 rfl rfl ⟨by decide, by decide⟩ hP hS rfl hl.1 rfl (Nat.le_of_ble_eq_true rfl) dX8_isLine_8 (fun H locs hP hS => ?_)
  have h1 := hf
  exact retZ hx hb hr hlocks hP hS (by exact M_lies_01 ..) h1 rfl dX8_isLine_11
theorem M_isLine_01 (x1 : Int32) (σ0 : St) : M_isLine x1 σ0 = 0 ∨ M_isLine x1 σ0 = 1 := by
  unfold M_isLine
  repeat (first | exact Or.inl rfl | exact Or.inr rfl | exact M_lies_01 .. | split)
theorem dX8_asAtFirst_0 : decode cX8_asAtFirst 0 = .ok (.aload_n 0, 1) := by decide +kernel
theorem dX8_asAtFirst_1 : decode cX8_asAtFirst 1 = .ok (.iconst 0, 1) := by decide +kernel
theorem dX8_asAtFirst_2 : decode cX8_asAtFirst 2 = .ok (.putfield 87, 3) := by decide +kernel
theorem dX8_asAtFirst_5 : decode cX8_asAtFirst 5 = .ok (.aload_n 0, 1) := by decide +kernel
theorem dX8_asAtFirst_6 : decode cX8_asAtFirst 6 = .ok (.iconst 0, 1) := by decide +kernel
theorem dX8_asAtFirst_7 : decode cX8_asAtFirst 7 = .ok (.putfield 90, 3) := by decide +kernel
theorem dX8_asAtFirst_10 : decode cX8_asAtFirst 10 = .ok (.aload_n 0, 1) := by decide +kernel
theorem dX8_asAtFirst_11 : decode cX8_asAtFirst 11 = .ok (.bipush 7, 2) := by decide +kernel
theorem dX8_asAtFirst_13 : decode cX8_asAtFirst 13 = .ok (.putfield 13, 3) := by decide +kernel
theorem dX8_asAtFirst_16 : decode cX8_asAtFirst 16 = .ok (.aload_n 0, 1) := by decide +kernel
theorem dX8_asAtFirst_17 : decode cX8_asAtFirst 17 = .ok (.sipush 9999, 3) := by decide +kernel
theorem dX8_asAtFirst_20 : decode cX8_asAtFirst 20 = .ok (.putfield 16, 3) := by decide +kernel
theorem dX8_asAtFirst_23 : decode cX8_asAtFirst 23 = .ok (.aload_n 0, 1) := by decide +kernel
theorem dX8_asAtFirst_24 : decode cX8_asAtFirst 24 = .ok (.iconst 0, 1) := by decide +kernel
theorem dX8_asAtFirst_25 : decode cX8_asAtFirst 25 = .ok (.putfield 93, 3) := by decide +kernel
theorem dX8_asAtFirst_28 : decode cX8_asAtFirst 28 = .ok (.aload_n 0, 1) := by decide +kernel
theorem dX8_asAtFirst_29 : decode cX8_asAtFirst 29 = .ok (.bipush 14, 2) := by decide +kernel
theorem dX8_asAtFirst_31 : decode cX8_asAtFirst 31 = .ok (.putfield 19, 3) := by decide +kernel
theorem dX8_asAtFirst_34 : decode cX8_asAtFirst 34 = .ok (.aload_n 0, 1) := by decide +kernel
theorem dX8_asAtFirst_35 : decode cX8_asAtFirst 35 = .ok (.sipush 9999, 3) := by decide +kernel
theorem dX8_asAtFirst_38 : decode cX8_asAtFirst 38 = .ok (.putfield 22, 3) := by decide +kernel
theorem dX8_asAtFirst_41 : decode cX8_asAtFirst 41 = .ok (.iconst 0, 1) := by decide +kernel
theorem dX8_asAtFirst_42 : decode cX8_asAtFirst 42 = .ok (.istore_n 1, 1) := by decide +kernel
theorem dX8_asAtFirst_43 : decode cX8_asAtFirst 43 = .ok (.iload_n 1, 1) := by decide +kernel
theorem dX8_asAtFirst_44 : decode cX8_asAtFirst 44 = .ok (.bipush 8, 2) := by decide +kernel
theorem dX8_asAtFirst_46 : decode cX8_asAtFirst 46 = .ok (.if_icmp .ge 24, 3) := by decide +kernel
theorem dX8_asAtFirst_49 : decode cX8_asAtFirst 49 = .ok (.aload_n 0, 1) := by decide +kernel
theorem dX8_asAtFirst_50 : decode cX8_asAtFirst 50 = .ok (.getfield 42, 3) := by decide +kernel
theorem dX8_asAtFirst_53 : decode cX8_asAtFirst 53 = .ok (.iload_n 1, 1) := by decide +kernel
theorem dX8_asAtFirst_54 : decode cX8_asAtFirst 54 = .ok (.bipush 14, 2) := by decide +kernel
theorem dX8_asAtFirst_56 : decode cX8_asAtFirst 56 = .ok (.iastore, 1) := by decide +kernel
theorem dX8_asAtFirst_57 : decode cX8_asAtFirst 57 = .ok (.aload_n 0, 1) := by decide +kernel
theorem dX8_asAtFirst_58 : decode cX8_asAtFirst 58 = .ok (.getfield 45, 3) := by decide +kernel
theorem dX8_asAtFirst_61 : decode cX8_asAtFirst 61 = .ok (.iload_n 1, 1) := by decide +kernel
theorem dX8_asAtFirst_62 : decode cX8_asAtFirst 62 = .ok (.iconst 1, 1) := by decide +kernel
theorem dX8_asAtFirst_63 : decode cX8_asAtFirst 63 = .ok (.iastore, 1) := by decide +kernel
theorem dX8_asAtFirst_64 : decode cX8_asAtFirst 64 = .ok (.iinc 1 1, 3) := by decide +kernel
theorem dX8_asAtFirst_67 : decode cX8_asAtFirst 67 = .ok (.goto (-24), 3) := by decide +kernel
theorem dX8_asAtFirst_70 : decode cX8_asAtFirst 70 = .ok (.iconst 0, 1) := by decide +kernel
theorem dX8_asAtFirst_71 : decode cX8_asAtFirst 71 = .ok (.istore_n 1, 1) := by decide +kernel
theorem dX8_asAtFirst_72 : decode cX8_asAtFirst 72 = .ok (.iload_n 1, 1) := by decide +kernel
theorem dX8_asAtFirst_73 : decode cX8_asAtFirst 73 = .ok (.bipush 14, 2) := by decide +kernel
theorem dX8_asAtFirst_75 : decode cX8_asAtFirst 75 = .ok (.if_icmp .ge 16, 3) := by decide +kernel
theorem dX8_asAtFirst_78 : decode cX8_asAtFirst 78 = .ok (.aload_n 0, 1) := by decide +kernel
theorem dX8_asAtFirst_79 : decode cX8_asAtFirst 79 = .ok (.getfield 38, 3) := by decide +kernel
theorem dX8_asAtFirst_82 : decode cX8_asAtFirst 82 = .ok (.iload_n 1, 1) := by decide +kernel
theorem dX8_asAtFirst_83 : decode cX8_asAtFirst 83 = .ok (.iconst 0, 1) := by decide +kernel
theorem dX8_asAtFirst_84 : decode cX8_asAtFirst 84 = .ok (.bastore, 1) := by decide +kernel
theorem dX8_asAtFirst_85 : decode cX8_asAtFirst 85 = .ok (.iinc 1 1, 3) := by decide +kernel
theorem dX8_asAtFirst_88 : decode cX8_asAtFirst 88 = .ok (.goto (-16), 3) := by decide +kernel
theorem dX8_asAtFirst_91 : decode cX8_asAtFirst 91 = .ok (.aload_n 0, 1) := by decide +kernel
theorem dX8_asAtFirst_92 : decode cX8_asAtFirst 92 = .ok (.iconst 0, 1) := by decide +kernel
theorem dX8_asAtFirst_93 : decode cX8_asAtFirst 93 = .ok (.putfield 96, 3) := by decide +kernel
theorem dX8_asAtFirst_96 : decode cX8_asAtFirst 96 = .ok (.return_, 1) := by decide +kernel
def M_asAtFirst_43 (N : Nat) (k_72 : Int32 → St → Option (St)) : Nat → Int32 → St → Option (St)
  | 0, _, _ => none
  | n + 1, x1, σ => if 8 ≤ x1 then k_72 0 σ else grd (inb x1 8) (lt (sa σ 5 (x1).toNatClampNeg 14) (fun σ3 => grd (inb x1 8) (lt (sa σ3 6 (x1).toNatClampNeg 1) (fun σ5 => M_asAtFirst_43 N k_72 n (x1 + 1) σ5))))
theorem M_asAtFirst_43_s (N : Nat) (k_72 : Int32 → St → Option (St)) (n : Nat) (x1 : Int32) (σ : St) : M_asAtFirst_43 N k_72 (n + 1) x1 σ = if 8 ≤ x1 then k_72 0 σ else grd (inb x1 8) (lt (sa σ 5 (x1).toNatClampNeg 14) (fun σ3 => grd (inb x1 8) (lt (sa σ3 6 (x1).toNatClampNeg 1) (fun σ5 => M_asAtFirst_43 N k_72 n (x1 + 1) σ5)))) := rfl
def M_asAtFirst_72 (N : Nat) (k_91 : St → Option (St)) : Nat → Int32 → St → Option (St)
  | 0, _, _ => none
  | n + 1, x1, σ => if 14 ≤ x1 then k_91 σ else grd (inb x1 14) (lt (sa σ 4 (x1).toNatClampNeg (vp_nar .boolean 0)) (fun σ8 => M_asAtFirst_72 N k_91 n (x1 + 1) σ8))
theorem M_asAtFirst_72_s (N : Nat) (k_91 : St → Option (St)) (n : Nat) (x1 : Int32) (σ : St) : M_asAtFirst_72 N k_91 (n + 1) x1 σ = if 14 ≤ x1 then k_91 σ else grd (inb x1 14) (lt (sa σ 4 (x1).toNatClampNeg (vp_nar .boolean 0)) (fun σ8 => M_asAtFirst_72 N k_91 n (x1 + 1) σ8)) := rfl
def M_asAtFirst_91 (N : Nat)  (σ : St) : Option (St) := lt (si σ 8 0) (fun σ9 => some σ9)
def M_asAtFirst (N : Nat)  (σ0 : St) : Option (St) := lt (si σ0 1 0) (fun σ10 => lt (si σ10 2 0) (fun σ11 => lt (si σ11 3 7) (fun σ12 => lt (si σ12 4 9999) (fun σ13 => lt (si σ13 5 0) (fun σ14 => lt (si σ14 6 14) (fun σ15 => lt (si σ15 7 9999) (fun σ16 => M_asAtFirst_43 N (M_asAtFirst_72 N (M_asAtFirst_91 N) N) N 0 σ16)))))))
abbrev rm_M_asAtFirst : Room := { frames := 0, cells := 0, slots := 0, locals := 0 }
set_option maxHeartbeats 4000000 in
set_option maxRecDepth 100000 in
theorem k_M_asAtFirst (l : Launch) (ad : Nat → Nat) (cI cJ cZ : ClassId) {N : Nat}  {σ0 : St} {τ : St} (hf : M_asAtFirst N σ0 = some τ) : CtV l yX8_asAtFirst (gws (.code yX8_asAtFirst cX8_asAtFirst 2 none)) (rm_M_asAtFirst) (ty3 cI cJ cZ) (mw ad cI cZ) [.ref (ad 0)] σ0 τ := by
  refine CtV.of (by decide) (mw_ok ad cI cZ) (Nat.le_of_ble_eq_true rfl) ?_
  generalize hav : ([.ref (ad 0)] : List Value) = av
  intro p e s m below meth c D A hC ls hl hP hS
  obtain ⟨hx, hb, hr, hlocks, hml, hown, hts, hK, hN, hD, hA⟩ := id hC
  rw [← hav] at hl
  have hl : lv_has ls 2 [(0, .ref (ad 0))] := hl
  unfold M_asAtFirst at hf
  have hw_43 : ∀ (k_72 : Int32 → St → Option (St)) (hk_72 : ∀ (x1 : Int32) (σ : St) (H : Heap) (locs : List Loc) (ls : Array Slot), va_P D vwCl ((mw ad cI cZ) σ) H → va_S A s.heap H locs → lv_has ls 2 [(0, .ref (ad 0)), (1, .int x1)] → k_72 x1 σ = some τ → W p l e (rm_M_asAtFirst) s m av.toArray below meth c H locs 0 0 (QV below av.toArray s D A (mw ad cI cZ) τ) (F0 m 72 ls [])), ∀ (n : Nat), ∀ (x1 : Int32) (σ : St) (H : Heap) (locs : List Loc) (ls : Array Slot), va_P D vwCl ((mw ad cI cZ) σ) H → va_S A s.heap H locs → lv_has ls 2 [(0, .ref (ad 0)), (1, .int x1)] → M_asAtFirst_43 N k_72 n x1 σ = some τ → W p l e (rm_M_asAtFirst) s m av.toArray below meth c H locs 0 0 (QV below av.toArray s D A (mw ad cI cZ) τ) (F0 m 43 ls []) := by
    intro k_72 hk_72
    intro n
    induction n with
    | zero =>
      intro x1 σ H locs ls hP hS hl hf
      cases hf
    | succ n ih =>
      intro x1 σ H locs ls hP hS hl hf
      rw [M_asAtFirst_43_s] at hf
      refine lv_iload_n hx hb dX8_asAtFirst_43 rfl (lv_at hl 1 rfl) ?_
      refine lv_bipush (v := 8) hx hb dX8_asAtFirst_44 (by decide) ?_
      refine lv_icmp_ge (tgt := 70) hx hb dX8_asAtFirst_46 (by decide) (fun c1 => ?_) (fun c1 => ?_)
      · rw [if_pos c1] at hf
        refine lv_iconst (v := 0) hx hb dX8_asAtFirst_70 (by decide) ?_
        refine lv_istore_n (lv' := [(1, .int 0), (0, .ref (ad 0))]) hx hb dX8_asAtFirst_71 rfl hl (by decide) rfl (fun ls hl => ?_)
        exact hk_72 0 σ H locs ls hP hS (lv_sub hl [1, 0] rfl) hf
      rw [if_neg c1] at hf
      refine lv_aload_n hx hb dX8_asAtFirst_49 rfl (lv_at hl 0 rfl) ?_
      refine mg_0_13 hC hP tw_732 dX8_asAtFirst_50 ?_
      refine lv_iload_n hx hb dX8_asAtFirst_53 rfl (lv_at hl 1 rfl) ?_
      refine lv_bipush (v := 14) hx hb dX8_asAtFirst_54 (by decide) ?_
      obtain ⟨g2, hf⟩ := grd_some hf
      refine ms_6 hC hP hS g2 dX8_asAtFirst_56 (fun H locs hP hS => ?_)
      obtain ⟨σ3, eσ3, hf⟩ := lt_e hf
      rw [← eσ3] at hP
      refine lv_aload_n hx hb dX8_asAtFirst_57 rfl (lv_at hl 0 rfl) ?_
      refine mg_0_14 hC hP tw_733 dX8_asAtFirst_58 ?_
      refine lv_iload_n hx hb dX8_asAtFirst_61 rfl (lv_at hl 1 rfl) ?_
      refine lv_iconst (v := 1) hx hb dX8_asAtFirst_62 (by decide) ?_
      obtain ⟨g4, hf⟩ := grd_some hf
      refine ms_7 hC hP hS g4 dX8_asAtFirst_63 (fun H locs hP hS => ?_)
      obtain ⟨σ5, eσ5, hf⟩ := lt_e hf
      rw [← eσ5] at hP
      refine lv_iinc (v := (x1 + 1)) (lv' := [(1, .int (x1 + 1)), (0, .ref (ad 0))]) hx hb dX8_asAtFirst_64 hl (k := 1) rfl rfl (by decide) rfl (fun ls hl => ?_)
      refine lv_goto (tgt := 43) hx hb dX8_asAtFirst_67 (by decide) ?_
      exact ih (x1 + 1) σ5 H locs ls hP hS (lv_sub hl [1, 0] rfl) hf
  have hw_72 : ∀ (k_91 : St → Option (St)) (hk_91 : ∀  (σ : St) (H : Heap) (locs : List Loc) (ls : Array Slot), va_P D vwCl ((mw ad cI cZ) σ) H → va_S A s.heap H locs → lv_has ls 2 [(0, .ref (ad 0))] → k_91 σ = some τ → W p l e (rm_M_asAtFirst) s m av.toArray below meth c H locs 0 0 (QV below av.toArray s D A (mw ad cI cZ) τ) (F0 m 91 ls [])), ∀ (n : Nat), ∀ (x1 : Int32) (σ : St) (H : Heap) (locs : List Loc) (ls : Array Slot), va_P D vwCl ((mw ad cI cZ) σ) H → va_S A s.heap H locs → lv_has ls 2 [(0, .ref (ad 0)), (1, .int x1)] → M_asAtFirst_72 N k_91 n x1 σ = some τ → W p l e (rm_M_asAtFirst) s m av.toArray below meth c H locs 0 0 (QV below av.toArray s D A (mw ad cI cZ) τ) (F0 m 72 ls []) := by
    intro k_91 hk_91
    intro n
    induction n with
    | zero =>
      intro x1 σ H locs ls hP hS hl hf
      cases hf
    | succ n ih =>
      intro x1 σ H locs ls hP hS hl hf
      rw [M_asAtFirst_72_s] at hf
      refine lv_iload_n hx hb dX8_asAtFirst_72 rfl (lv_at hl 1 rfl) ?_
      refine lv_bipush (v := 14) hx hb dX8_asAtFirst_73 (by decide) ?_
      refine lv_icmp_ge (tgt := 91) hx hb dX8_asAtFirst_75 (by decide) (fun c6 => ?_) (fun c6 => ?_)
      · rw [if_pos c6] at hf
        exact hk_91 σ H locs ls hP hS (lv_sub hl [0] rfl) hf
      rw [if_neg c6] at hf
      refine lv_aload_n hx hb dX8_asAtFirst_78 rfl (lv_at hl 0 rfl) ?_
      refine mg_0_12 hC hP tw_731 dX8_asAtFirst_79 ?_
      refine lv_iload_n hx hb dX8_asAtFirst_82 rfl (lv_at hl 1 rfl) ?_
      refine lv_iconst (v := 0) hx hb dX8_asAtFirst_83 (by decide) ?_
      obtain ⟨g7, hf⟩ := grd_some hf
      refine ms_5 hC hP hS g7 dX8_asAtFirst_84 (fun H locs hP hS => ?_)
      obtain ⟨σ8, eσ8, hf⟩ := lt_e hf
      rw [← eσ8] at hP
      refine lv_iinc (v := (x1 + 1)) (lv' := [(1, .int (x1 + 1)), (0, .ref (ad 0))]) hx hb dX8_asAtFirst_85 hl (k := 1) rfl rfl (by decide) rfl (fun ls hl => ?_)
      refine lv_goto (tgt := 72) hx hb dX8_asAtFirst_88 (by decide) ?_
      exact ih (x1 + 1) σ8 H locs ls hP hS (lv_sub hl [1, 0] rfl) hf
  have hw_91 : ∀  (σ : St) (H : Heap) (locs : List Loc) (ls : Array Slot), va_P D vwCl ((mw ad cI cZ) σ) H → va_S A s.heap H locs → lv_has ls 2 [(0, .ref (ad 0))] → M_asAtFirst_91 N σ = some τ → W p l e (rm_M_asAtFirst) s m av.toArray below meth c H locs 0 0 (QV below av.toArray s D A (mw ad cI cZ) τ) (F0 m 91 ls []) := by
    intro σ H locs ls hP hS hl hf
    unfold M_asAtFirst_91 at hf
    refine lv_aload_n hx hb dX8_asAtFirst_91 rfl (lv_at hl 0 rfl) ?_
    refine lv_iconst (v := 0) hx hb dX8_asAtFirst_92 (by decide) ?_
    refine mp_0_18 hC hP hS (by first | exact Or.inl rfl | exact Or.inr rfl) tw_737 dX8_asAtFirst_93 (fun H locs hP hS => ?_)
    obtain ⟨σ9, eσ9, hf⟩ := lt_e hf
    rw [← eσ9] at hP
    have h2 := Option.some.inj hf
    exact retV hx hb hr hlocks hP hS h2 dX8_asAtFirst_96
  obtain ⟨H, hH⟩ : ∃ z, z = s.heap := ⟨_, rfl⟩
  obtain ⟨locs, hlocs⟩ : ∃ z : List Loc, z = [] := ⟨_, rfl⟩
  rw [← hH] at hP
  have hS : va_S A s.heap H locs := by rw [hH, hlocs]; exact va_S.rf
  suffices hgoal : W p l e _ s m _ below meth c H locs 0 0 _ _ by rw [hH, hlocs] at hgoal; exact hgoal
  refine lv_aload_n hx hb dX8_asAtFirst_0 rfl (lv_at hl 0 rfl) ?_
  refine lv_iconst (v := 0) hx hb dX8_asAtFirst_1 (by decide) ?_
  refine mp_0_1 hC hP hS tw_720 dX8_asAtFirst_2 (fun H locs hP hS => ?_)
  obtain ⟨σ10, eσ10, hf⟩ := lt_e hf
  rw [← eσ10] at hP
  refine lv_aload_n hx hb dX8_asAtFirst_5 rfl (lv_at hl 0 rfl) ?_
  refine lv_iconst (v := 0) hx hb dX8_asAtFirst_6 (by decide) ?_
  refine mp_0_2 hC hP hS tw_721 dX8_asAtFirst_7 (fun H locs hP hS => ?_)
  obtain ⟨σ11, eσ11, hf⟩ := lt_e hf
  rw [← eσ11] at hP
  refine lv_aload_n hx hb dX8_asAtFirst_10 rfl (lv_at hl 0 rfl) ?_
  refine lv_bipush (v := 7) hx hb dX8_asAtFirst_11 (by decide) ?_
  refine mp_0_3 hC hP hS tw_722 dX8_asAtFirst_13 (fun H locs hP hS => ?_)
  obtain ⟨σ12, eσ12, hf⟩ := lt_e hf
  rw [← eσ12] at hP
  refine lv_aload_n hx hb dX8_asAtFirst_16 rfl (lv_at hl 0 rfl) ?_
  refine lv_sipush (v := 9999) hx hb dX8_asAtFirst_17 (by decide) ?_
  refine mp_0_4 hC hP hS tw_723 dX8_asAtFirst_20 (fun H locs hP hS => ?_)
  obtain ⟨σ13, eσ13, hf⟩ := lt_e hf
  rw [← eσ13] at hP
  refine lv_aload_n hx hb dX8_asAtFirst_23 rfl (lv_at hl 0 rfl) ?_
  refine lv_iconst (v := 0) hx hb dX8_asAtFirst_24 (by decide) ?_
  refine mp_0_5 hC hP hS tw_724 dX8_asAtFirst_25 (fun H locs hP hS => ?_)
  obtain ⟨σ14, eσ14, hf⟩ := lt_e hf
  rw [← eσ14] at hP
  refine lv_aload_n hx hb dX8_asAtFirst_28 rfl (lv_at hl 0 rfl) ?_
  refine lv_bipush (v := 14) hx hb dX8_asAtFirst_29 (by decide) ?_
  refine mp_0_6 hC hP hS tw_725 dX8_asAtFirst_31 (fun H locs hP hS => ?_)
  obtain ⟨σ15, eσ15, hf⟩ := lt_e hf
  rw [← eσ15] at hP
  refine lv_aload_n hx hb dX8_asAtFirst_34 rfl (lv_at hl 0 rfl) ?_
  refine lv_sipush (v := 9999) hx hb dX8_asAtFirst_35 (by decide) ?_
  refine mp_0_7 hC hP hS tw_726 dX8_asAtFirst_38 (fun H locs hP hS => ?_)
  obtain ⟨σ16, eσ16, hf⟩ := lt_e hf
  rw [← eσ16] at hP
  refine lv_iconst (v := 0) hx hb dX8_asAtFirst_41 (by decide) ?_
  refine lv_istore_n (lv' := [(1, .int 0), (0, .ref (ad 0))]) hx hb dX8_asAtFirst_42 rfl hl (by decide) rfl (fun ls hl => ?_)
  exact hw_43 (M_asAtFirst_72 N (M_asAtFirst_91 N) N) (hw_72 (M_asAtFirst_91 N) hw_91 N) N 0 σ16 H locs ls hP hS (lv_sub hl [1, 0] rfl) hf
theorem dX8_posts_0 : decode cX8_posts 0 = .ok (.iload_n 1, 1) := by decide +kernel
theorem dX8_posts_1 : decode cX8_posts 1 = .ok (.iconst 2, 1) := by decide +kernel
theorem dX8_posts_2 : decode cX8_posts 2 = .ok (.bipush 8, 2) := by decide +kernel
theorem dX8_posts_4 : decode cX8_posts 4 = .ok (.invokestatic 100, 3) := by decide +kernel
theorem dX8_posts_7 : decode cX8_posts 7 = .ok (.ifCond .ne 5, 3) := by decide +kernel
theorem dX8_posts_10 : decode cX8_posts 10 = .ok (.iconst 0, 1) := by decide +kernel
theorem dX8_posts_11 : decode cX8_posts 11 = .ok (.ireturn, 1) := by decide +kernel
theorem dX8_posts_12 : decode cX8_posts 12 = .ok (.aload_n 0, 1) := by decide +kernel
theorem dX8_posts_13 : decode cX8_posts 13 = .ok (.iload_n 1, 1) := by decide +kernel
theorem dX8_posts_14 : decode cX8_posts 14 = .ok (.putfield 7, 3) := by decide +kernel
theorem dX8_posts_17 : decode cX8_posts 17 = .ok (.aload_n 0, 1) := by decide +kernel
theorem dX8_posts_18 : decode cX8_posts 18 = .ok (.invokevirtual 84, 3) := by decide +kernel
theorem dX8_posts_21 : decode cX8_posts 21 = .ok (.iconst 1, 1) := by decide +kernel
theorem dX8_posts_22 : decode cX8_posts 22 = .ok (.ireturn, 1) := by decide +kernel
def M_posts (N : Nat) (x1 : Int32) (σ0 : St) : Option (Int32 × St) := if (M_lies x1 2 8) = 0 then some (0, σ0) else lt (si σ0 0 x1) (fun σ2 => bnd (M_asAtFirst N σ2) (fun σ3 => some (1, σ3)))
abbrev rm_M_posts : Room := { frames := 1, cells := 0, slots := 0, locals := 22 }
set_option maxHeartbeats 4000000 in
set_option maxRecDepth 100000 in
theorem k_M_posts (l : Launch) (ad : Nat → Nat) (cI cJ cZ : ClassId) {N : Nat} {x1 : Int32} {σ0 : St} {r : Int32} {τ : St} (hf : M_posts N x1 σ0 = some (r, τ)) : CtI l yX8_posts (gws (.code yX8_posts cX8_posts 2 (some .boolean))) (rm_M_posts) (ty3 cI cJ cZ) (mw ad cI cZ) [.ref (ad 0), .int x1] σ0 r τ := by
  refine CtI.of (by decide) (mw_ok ad cI cZ) (Nat.le_of_ble_eq_true rfl) ?_
  generalize hav : ([.ref (ad 0), .int x1] : List Value) = av
  intro p e s m below meth c D A hC ls hl hP hS
  obtain ⟨hx, hb, hr, hlocks, hml, hown, hts, hK, hN, hD, hA⟩ := id hC
  rw [← hav] at hl
  have hl : lv_has ls 2 [(0, .ref (ad 0)), (1, .int x1)] := hl
  unfold M_posts at hf
  obtain ⟨H, hH⟩ : ∃ z, z = s.heap := ⟨_, rfl⟩
  obtain ⟨locs, hlocs⟩ : ∃ z : List Loc, z = [] := ⟨_, rfl⟩
  rw [← hH] at hP
  have hS : va_S A s.heap H locs := by rw [hH, hlocs]; exact va_S.rf
  suffices hgoal : W p l e _ s m _ below meth c H locs 0 0 _ _ by rw [hH, hlocs] at hgoal; exact hgoal
  refine lv_iload_n hx hb dX8_posts_0 rfl (lv_at hl 1 rfl) ?_
  refine lv_iconst (v := 2) hx hb dX8_posts_1 (by decide) ?_
  refine lv_bipush (v := 8) hx hb dX8_posts_2 (by decide) ?_
  refine cSi (As := [.int x1, .int 2, .int 8]) (rest := []) hC (k_M_lies l (mw ad cI cZ) (mw_ok ad cI cZ) (ty3 cI cJ cZ) _ rfl) yy_X8_lies tw_815 rfl rfl ⟨by decide, by decide⟩ hP hS rfl hl.1 rfl (Nat.le_of_ble_eq_true rfl) dX8_posts_4 (fun H locs hP hS => ?_)
  refine lv_if_ne (tgt := 12) hx hb dX8_posts_7 (by decide) (fun c1 => ?_) (fun c1 => ?_)
  · rw [if_neg c1] at hf
    refine lv_aload_n hx hb dX8_posts_12 rfl (lv_at hl 0 rfl) ?_
    refine lv_iload_n hx hb dX8_posts_13 rfl (lv_at hl 1 rfl) ?_
    refine mp_0_0 hC hP hS tw_719 dX8_posts_14 (fun H locs hP hS => ?_)
    obtain ⟨σ2, eσ2, hf⟩ := lt_e hf
    rw [← eσ2] at hP
    refine lv_aload_n hx hb dX8_posts_17 rfl (lv_at hl 0 rfl) ?_
    obtain ⟨σ3, hcσ3, hf⟩ := bnd_some hf
    refine cVv (As := []) (rest := []) hC (k_M_asAtFirst l ad cI cJ cZ hcσ3) yy_X8_asAtFirst tw_715 rfl rfl ⟨by decide, by decide⟩ hP hS (q0 := 0) (ci := 8) rfl rfl (mwa_0 ..) rfl hl.1 rfl (Nat.le_of_ble_eq_true rfl) dX8_posts_18 (fun H locs hP hS => ?_)
    refine lv_iconst (v := 1) hx hb dX8_posts_21 (by decide) ?_
    obtain ⟨h1, h2⟩ := ret2 hf
    exact retZ hx hb hr hlocks hP hS (Or.inr rfl) h1 h2 dX8_posts_22
  rw [if_pos c1] at hf
  refine lv_iconst (v := 0) hx hb dX8_posts_10 (by decide) ?_
  obtain ⟨h1, h2⟩ := ret2 hf
  exact retZ hx hb hr hlocks hP hS (Or.inl rfl) h1 h2 dX8_posts_11
theorem dX8_line_0 : decode cX8_line 0 = .ok (.aload_n 0, 1) := by decide +kernel
theorem dX8_line_1 : decode cX8_line 1 = .ok (.getfield 87, 3) := by decide +kernel
theorem dX8_line_4 : decode cX8_line 4 = .ok (.bipush 14, 2) := by decide +kernel
theorem dX8_line_6 : decode cX8_line 6 = .ok (.if_icmp .eq 45, 3) := by decide +kernel
theorem dX8_line_9 : decode cX8_line 9 = .ok (.aload_n 0, 1) := by decide +kernel
theorem dX8_line_10 : decode cX8_line 10 = .ok (.iload_n 1, 1) := by decide +kernel
theorem dX8_line_11 : decode cX8_line 11 = .ok (.invokevirtual 104, 3) := by decide +kernel
theorem dX8_line_14 : decode cX8_line 14 = .ok (.ifCond .eq 37, 3) := by decide +kernel
theorem dX8_line_17 : decode cX8_line 17 = .ok (.aload_n 0, 1) := by decide +kernel
theorem dX8_line_18 : decode cX8_line 18 = .ok (.iload_n 2, 1) := by decide +kernel
theorem dX8_line_19 : decode cX8_line 19 = .ok (.invokevirtual 104, 3) := by decide +kernel
theorem dX8_line_22 : decode cX8_line 22 = .ok (.ifCond .eq 29, 3) := by decide +kernel
theorem dX8_line_25 : decode cX8_line 25 = .ok (.iload_n 1, 1) := by decide +kernel
theorem dX8_line_26 : decode cX8_line 26 = .ok (.iload_n 2, 1) := by decide +kernel
theorem dX8_line_27 : decode cX8_line 27 = .ok (.if_icmp .eq 24, 3) := by decide +kernel
theorem dX8_line_30 : decode cX8_line 30 = .ok (.iload_n 3, 1) := by decide +kernel
theorem dX8_line_31 : decode cX8_line 31 = .ok (.iconst 0, 1) := by decide +kernel
theorem dX8_line_32 : decode cX8_line 32 = .ok (.sipush 999, 3) := by decide +kernel
theorem dX8_line_35 : decode cX8_line 35 = .ok (.invokestatic 100, 3) := by decide +kernel
theorem dX8_line_38 : decode cX8_line 38 = .ok (.ifCond .eq 13, 3) := by decide +kernel
theorem dX8_line_41 : decode cX8_line 41 = .ok (.iload 4, 2) := by decide +kernel
theorem dX8_line_43 : decode cX8_line 43 = .ok (.iconst 0, 1) := by decide +kernel
theorem dX8_line_44 : decode cX8_line 44 = .ok (.iconst 1, 1) := by decide +kernel
theorem dX8_line_45 : decode cX8_line 45 = .ok (.invokestatic 100, 3) := by decide +kernel
theorem dX8_line_48 : decode cX8_line 48 = .ok (.ifCond .ne 5, 3) := by decide +kernel
theorem dX8_line_51 : decode cX8_line 51 = .ok (.iconst (-1), 1) := by decide +kernel
theorem dX8_line_52 : decode cX8_line 52 = .ok (.ireturn, 1) := by decide +kernel
theorem dX8_line_53 : decode cX8_line 53 = .ok (.aload_n 0, 1) := by decide +kernel
theorem dX8_line_54 : decode cX8_line 54 = .ok (.getfield 25, 3) := by decide +kernel
theorem dX8_line_57 : decode cX8_line 57 = .ok (.aload_n 0, 1) := by decide +kernel
theorem dX8_line_58 : decode cX8_line 58 = .ok (.getfield 87, 3) := by decide +kernel
theorem dX8_line_61 : decode cX8_line 61 = .ok (.iload_n 1, 1) := by decide +kernel
theorem dX8_line_62 : decode cX8_line 62 = .ok (.iastore, 1) := by decide +kernel
theorem dX8_line_63 : decode cX8_line 63 = .ok (.aload_n 0, 1) := by decide +kernel
theorem dX8_line_64 : decode cX8_line 64 = .ok (.getfield 29, 3) := by decide +kernel
theorem dX8_line_67 : decode cX8_line 67 = .ok (.aload_n 0, 1) := by decide +kernel
theorem dX8_line_68 : decode cX8_line 68 = .ok (.getfield 87, 3) := by decide +kernel
theorem dX8_line_71 : decode cX8_line 71 = .ok (.iload_n 2, 1) := by decide +kernel
theorem dX8_line_72 : decode cX8_line 72 = .ok (.iastore, 1) := by decide +kernel
theorem dX8_line_73 : decode cX8_line 73 = .ok (.aload_n 0, 1) := by decide +kernel
theorem dX8_line_74 : decode cX8_line 74 = .ok (.getfield 32, 3) := by decide +kernel
theorem dX8_line_77 : decode cX8_line 77 = .ok (.aload_n 0, 1) := by decide +kernel
theorem dX8_line_78 : decode cX8_line 78 = .ok (.getfield 87, 3) := by decide +kernel
theorem dX8_line_81 : decode cX8_line 81 = .ok (.iload_n 3, 1) := by decide +kernel
theorem dX8_line_82 : decode cX8_line 82 = .ok (.iastore, 1) := by decide +kernel
theorem dX8_line_83 : decode cX8_line 83 = .ok (.aload_n 0, 1) := by decide +kernel
theorem dX8_line_84 : decode cX8_line 84 = .ok (.getfield 35, 3) := by decide +kernel
theorem dX8_line_87 : decode cX8_line 87 = .ok (.aload_n 0, 1) := by decide +kernel
theorem dX8_line_88 : decode cX8_line 88 = .ok (.getfield 87, 3) := by decide +kernel
theorem dX8_line_91 : decode cX8_line 91 = .ok (.iload 4, 2) := by decide +kernel
theorem dX8_line_93 : decode cX8_line 93 = .ok (.iastore, 1) := by decide +kernel
theorem dX8_line_94 : decode cX8_line 94 = .ok (.aload_n 0, 1) := by decide +kernel
theorem dX8_line_95 : decode cX8_line 95 = .ok (.dup, 1) := by decide +kernel
theorem dX8_line_96 : decode cX8_line 96 = .ok (.getfield 87, 3) := by decide +kernel
theorem dX8_line_99 : decode cX8_line 99 = .ok (.iconst 1, 1) := by decide +kernel
theorem dX8_line_100 : decode cX8_line 100 = .ok (.iadd, 1) := by decide +kernel
theorem dX8_line_101 : decode cX8_line 101 = .ok (.putfield 87, 3) := by decide +kernel
theorem dX8_line_104 : decode cX8_line 104 = .ok (.aload_n 0, 1) := by decide +kernel
theorem dX8_line_105 : decode cX8_line 105 = .ok (.iconst 0, 1) := by decide +kernel
theorem dX8_line_106 : decode cX8_line 106 = .ok (.putfield 96, 3) := by decide +kernel
theorem dX8_line_109 : decode cX8_line 109 = .ok (.aload_n 0, 1) := by decide +kernel
theorem dX8_line_110 : decode cX8_line 110 = .ok (.getfield 87, 3) := by decide +kernel
theorem dX8_line_113 : decode cX8_line 113 = .ok (.iconst 1, 1) := by decide +kernel
theorem dX8_line_114 : decode cX8_line 114 = .ok (.isub, 1) := by decide +kernel
theorem dX8_line_115 : decode cX8_line 115 = .ok (.ireturn, 1) := by decide +kernel
def M_line (N : Nat) (x1 : Int32) (x2 : Int32) (x3 : Int32) (x4 : Int32) (σ0 : St) : Option (Int32 × St) := if (σ0.1 1) = 14 then some ((-1), σ0) else if (M_isPost x1 σ0) = 0 then some ((-1), σ0) else if (M_isPost x2 σ0) = 0 then some ((-1), σ0) else if x1 = x2 then some ((-1), σ0) else if (M_lies x3 0 999) = 0 then some ((-1), σ0) else if (M_lies x4 0 1) = 0 then some ((-1), σ0) else grd (inb (σ0.1 1) 14) (lt (sa σ0 0 ((σ0.1 1)).toNatClampNeg x1) (fun σ8 => grd (inb (σ8.1 1) 14) (lt (sa σ8 1 ((σ8.1 1)).toNatClampNeg x2) (fun σ10 => grd (inb (σ10.1 1) 14) (lt (sa σ10 2 ((σ10.1 1)).toNatClampNeg x3) (fun σ12 => grd (inb (σ12.1 1) 14) (lt (sa σ12 3 ((σ12.1 1)).toNatClampNeg x4) (fun σ14 => lt (si σ14 1 ((σ14.1 1) + 1)) (fun σ15 => lt (si σ15 8 0) (fun σ16 => some (((σ16.1 1) - 1), σ16)))))))))))
abbrev rm_M_line : Room := { frames := 2, cells := 0, slots := 0, locals := 43 }
set_option maxHeartbeats 4000000 in
set_option maxRecDepth 100000 in
theorem k_M_line (l : Launch) (ad : Nat → Nat) (cI cJ cZ : ClassId) {N : Nat} {x1 : Int32} {x2 : Int32} {x3 : Int32} {x4 : Int32} {σ0 : St} {r : Int32} {τ : St} (hf : M_line N x1 x2 x3 x4 σ0 = some (r, τ)) : CtI l yX8_line (gws (.code yX8_line cX8_line 5 (some .int))) (rm_M_line) (ty3 cI cJ cZ) (mw ad cI cZ) [.ref (ad 0), .int x1, .int x2, .int x3, .int x4] σ0 r τ := by
  refine CtI.of (by decide) (mw_ok ad cI cZ) (Nat.le_of_ble_eq_true rfl) ?_
  generalize hav : ([.ref (ad 0), .int x1, .int x2, .int x3, .int x4] : List Value) = av
  intro p e s m below meth c D A hC ls hl hP hS
  obtain ⟨hx, hb, hr, hlocks, hml, hown, hts, hK, hN, hD, hA⟩ := id hC
  rw [← hav] at hl
  have hl : lv_has ls 5 [(0, .ref (ad 0)), (1, .int x1), (2, .int x2), (3, .int x3), (4, .int x4)] := hl
  unfold M_line at hf
  obtain ⟨H, hH⟩ : ∃ z, z = s.heap := ⟨_, rfl⟩
  obtain ⟨locs, hlocs⟩ : ∃ z : List Loc, z = [] := ⟨_, rfl⟩
  rw [← hH] at hP
  have hS : va_S A s.heap H locs := by rw [hH, hlocs]; exact va_S.rf
  suffices hgoal : W p l e _ s m _ below meth c H locs 0 0 _ _ by rw [hH, hlocs] at hgoal; exact hgoal
  refine lv_aload_n hx hb dX8_line_0 rfl (lv_at hl 0 rfl) ?_
  refine mg_0_1 hC hP tw_720 dX8_line_1 ?_
  refine lv_bipush (v := 14) hx hb dX8_line_4 (by decide) ?_
  refine lv_icmp_eq (tgt := 51) hx hb dX8_line_6 (by decide) (fun c1 => ?_) (fun c1 => ?_)
  · rw [if_pos c1] at hf
    refine lv_iconst (v := (-1)) hx hb dX8_line_51 (by decide) ?_
    obtain ⟨h1, h2⟩ := ret2 hf
    exact retI hx hb hr hlocks hP hS h1 h2 dX8_line_52
  rw [if_neg c1] at hf
  refine lv_aload_n hx hb dX8_line_9 rfl (lv_at hl 0 rfl) ?_
  refine lv_iload_n hx hb dX8_line_10 rfl (lv_at hl 1 rfl) ?_
  refine cVi (As := [.int x1]) (rest := []) hC (k_M_isPost l ad cI cJ cZ rfl) yy_X8_isPost tw_822 rfl rfl ⟨by decide, by decide⟩ hP hS (q0 := 0) (ci := 8) rfl rfl (mwa_0 ..) rfl hl.1 rfl (Nat.le_of_ble_eq_true rfl) dX8_line_11 (fun H locs hP hS => ?_)
  refine lv_if_eq (tgt := 51) hx hb dX8_line_14 (by decide) (fun c2 => ?_) (fun c2 => ?_)
  · rw [if_pos c2] at hf
    refine lv_iconst (v := (-1)) hx hb dX8_line_51 (by decide) ?_
    obtain ⟨h1, h2⟩ := ret2 hf
    exact retI hx hb hr hlocks hP hS h1 h2 dX8_line_52
  rw [if_neg c2] at hf
  refine lv_aload_n hx hb dX8_line_17 rfl (lv_at hl 0 rfl) ?_
  refine lv_iload_n hx hb dX8_line_18 rfl (lv_at hl 2 rfl) ?_
  refine cVi (As := [.int x2]) (rest := []) hC (k_M_isPost l ad cI cJ cZ rfl) yy_X8_isPost tw_822 rfl rfl ⟨by decide, by decide⟩ hP hS (q0 := 0) (ci := 8) rfl rfl (mwa_0 ..) rfl hl.1 rfl (Nat.le_of_ble_eq_true rfl) dX8_line_19 (fun H locs hP hS => ?_)
  refine lv_if_eq (tgt := 51) hx hb dX8_line_22 (by decide) (fun c3 => ?_) (fun c3 => ?_)
  · rw [if_pos c3] at hf
    refine lv_iconst (v := (-1)) hx hb dX8_line_51 (by decide) ?_
    obtain ⟨h1, h2⟩ := ret2 hf
    exact retI hx hb hr hlocks hP hS h1 h2 dX8_line_52
  rw [if_neg c3] at hf
  refine lv_iload_n hx hb dX8_line_25 rfl (lv_at hl 1 rfl) ?_
  refine lv_iload_n hx hb dX8_line_26 rfl (lv_at hl 2 rfl) ?_
  refine lv_icmp_eq (tgt := 51) hx hb dX8_line_27 (by decide) (fun c4 => ?_) (fun c4 => ?_)
  · rw [if_pos c4] at hf
    refine lv_iconst (v := (-1)) hx hb dX8_line_51 (by decide) ?_
    obtain ⟨h1, h2⟩ := ret2 hf
    exact retI hx hb hr hlocks hP hS h1 h2 dX8_line_52
  rw [if_neg c4] at hf
  refine lv_iload_n hx hb dX8_line_30 rfl (lv_at hl 3 rfl) ?_
  refine lv_iconst (v := 0) hx hb dX8_line_31 (by decide) ?_
  refine lv_sipush (v := 999) hx hb dX8_line_32 (by decide) ?_
  refine cSi (As := [.int x3, .int 0, .int 999]) (rest := []) hC (k_M_lies l (mw ad cI cZ) (mw_ok ad cI cZ) (ty3 cI cJ cZ) _ rfl) yy_X8_lies tw_815 rfl rfl ⟨by decide, by decide⟩ hP hS rfl hl.1 rfl (Nat.le_of_ble_eq_true rfl) dX8_line_35 (fun H locs hP hS => ?_)
  refine lv_if_eq (tgt := 51) hx hb dX8_line_38 (by decide) (fun c5 => ?_) (fun c5 => ?_)
  · rw [if_pos c5] at hf
    refine lv_iconst (v := (-1)) hx hb dX8_line_51 (by decide) ?_
    obtain ⟨h1, h2⟩ := ret2 hf
    exact retI hx hb hr hlocks hP hS h1 h2 dX8_line_52
  rw [if_neg c5] at hf
  refine lv_iload hx hb dX8_line_41 (lv_at hl 4 rfl) ?_
  refine lv_iconst (v := 0) hx hb dX8_line_43 (by decide) ?_
  refine lv_iconst (v := 1) hx hb dX8_line_44 (by decide) ?_
  refine cSi (As := [.int x4, .int 0, .int 1]) (rest := []) hC (k_M_lies l (mw ad cI cZ) (mw_ok ad cI cZ) (ty3 cI cJ cZ) _ rfl) yy_X8_lies tw_815 rfl rfl ⟨by decide, by decide⟩ hP hS rfl hl.1 rfl (Nat.le_of_ble_eq_true rfl) dX8_line_45 (fun H locs hP hS => ?_)
  refine lv_if_ne (tgt := 53) hx hb dX8_line_48 (by decide) (fun c6 => ?_) (fun c6 => ?_)
  · rw [if_neg c6] at hf
    refine lv_aload_n hx hb dX8_line_53 rfl (lv_at hl 0 rfl) ?_
    refine mg_0_8 hC hP tw_727 dX8_line_54 ?_
    refine lv_aload_n hx hb dX8_line_57 rfl (lv_at hl 0 rfl) ?_
    refine mg_0_1 hC hP tw_720 dX8_line_58 ?_
    refine lv_iload_n hx hb dX8_line_61 rfl (lv_at hl 1 rfl) ?_
    obtain ⟨g7, hf⟩ := grd_some hf
    refine ms_1 hC hP hS g7 dX8_line_62 (fun H locs hP hS => ?_)
    obtain ⟨σ8, eσ8, hf⟩ := lt_e hf
    rw [← eσ8] at hP
    refine lv_aload_n hx hb dX8_line_63 rfl (lv_at hl 0 rfl) ?_
    refine mg_0_9 hC hP tw_728 dX8_line_64 ?_
    refine lv_aload_n hx hb dX8_line_67 rfl (lv_at hl 0 rfl) ?_
    refine mg_0_1 hC hP tw_720 dX8_line_68 ?_
    refine lv_iload_n hx hb dX8_line_71 rfl (lv_at hl 2 rfl) ?_
    obtain ⟨g9, hf⟩ := grd_some hf
    refine ms_2 hC hP hS g9 dX8_line_72 (fun H locs hP hS => ?_)
    obtain ⟨σ10, eσ10, hf⟩ := lt_e hf
    rw [← eσ10] at hP
    refine lv_aload_n hx hb dX8_line_73 rfl (lv_at hl 0 rfl) ?_
    refine mg_0_10 hC hP tw_729 dX8_line_74 ?_
    refine lv_aload_n hx hb dX8_line_77 rfl (lv_at hl 0 rfl) ?_
    refine mg_0_1 hC hP tw_720 dX8_line_78 ?_
    refine lv_iload_n hx hb dX8_line_81 rfl (lv_at hl 3 rfl) ?_
    obtain ⟨g11, hf⟩ := grd_some hf
    refine ms_3 hC hP hS g11 dX8_line_82 (fun H locs hP hS => ?_)
    obtain ⟨σ12, eσ12, hf⟩ := lt_e hf
    rw [← eσ12] at hP
    refine lv_aload_n hx hb dX8_line_83 rfl (lv_at hl 0 rfl) ?_
    refine mg_0_11 hC hP tw_730 dX8_line_84 ?_
    refine lv_aload_n hx hb dX8_line_87 rfl (lv_at hl 0 rfl) ?_
    refine mg_0_1 hC hP tw_720 dX8_line_88 ?_
    refine lv_iload hx hb dX8_line_91 (lv_at hl 4 rfl) ?_
    obtain ⟨g13, hf⟩ := grd_some hf
    refine ms_4 hC hP hS g13 dX8_line_93 (fun H locs hP hS => ?_)
    obtain ⟨σ14, eσ14, hf⟩ := lt_e hf
    rw [← eσ14] at hP
    refine lv_aload_n hx hb dX8_line_94 rfl (lv_at hl 0 rfl) ?_
    refine lv_dup hx hb dX8_line_95 rfl ?_
    refine mg_0_1 hC hP tw_720 dX8_line_96 ?_
    refine lv_iconst (v := 1) hx hb dX8_line_99 (by decide) ?_
    refine lv_iadd hx hb dX8_line_100 ?_
    refine mp_0_1 hC hP hS tw_720 dX8_line_101 (fun H locs hP hS => ?_)
    obtain ⟨σ15, eσ15, hf⟩ := lt_e hf
    rw [← eσ15] at hP
    refine lv_aload_n hx hb dX8_line_104 rfl (lv_at hl 0 rfl) ?_
    refine lv_iconst (v := 0) hx hb dX8_line_105 (by decide) ?_
    refine mp_0_18 hC hP hS (by first | exact Or.inl rfl | exact Or.inr rfl) tw_737 dX8_line_106 (fun H locs hP hS => ?_)
    obtain ⟨σ16, eσ16, hf⟩ := lt_e hf
    rw [← eσ16] at hP
    refine lv_aload_n hx hb dX8_line_109 rfl (lv_at hl 0 rfl) ?_
    refine mg_0_1 hC hP tw_720 dX8_line_110 ?_
    refine lv_iconst (v := 1) hx hb dX8_line_113 (by decide) ?_
    refine lv_isub hx hb dX8_line_114 ?_
    obtain ⟨h1, h2⟩ := ret2 hf
    exact retI hx hb hr hlocks hP hS h1 h2 dX8_line_115
  rw [if_pos c6] at hf
  refine lv_iconst (v := (-1)) hx hb dX8_line_51 (by decide) ?_
  obtain ⟨h1, h2⟩ := ret2 hf
  exact retI hx hb hr hlocks hP hS h1 h2 dX8_line_52
theorem dX8_cut_0 : decode cX8_cut 0 = .ok (.aload_n 0, 1) := by decide +kernel
theorem dX8_cut_1 : decode cX8_cut 1 = .ok (.iload_n 1, 1) := by decide +kernel
theorem dX8_cut_2 : decode cX8_cut 2 = .ok (.invokevirtual 108, 3) := by decide +kernel
theorem dX8_cut_5 : decode cX8_cut 5 = .ok (.ifCond .eq 13, 3) := by decide +kernel
theorem dX8_cut_8 : decode cX8_cut 8 = .ok (.aload_n 0, 1) := by decide +kernel
theorem dX8_cut_9 : decode cX8_cut 9 = .ok (.getfield 38, 3) := by decide +kernel
theorem dX8_cut_12 : decode cX8_cut 12 = .ok (.iload_n 1, 1) := by decide +kernel
theorem dX8_cut_13 : decode cX8_cut 13 = .ok (.baload, 1) := by decide +kernel
theorem dX8_cut_14 : decode cX8_cut 14 = .ok (.iload_n 2, 1) := by decide +kernel
theorem dX8_cut_15 : decode cX8_cut 15 = .ok (.if_icmp .ne 5, 3) := by decide +kernel
theorem dX8_cut_18 : decode cX8_cut 18 = .ok (.iconst 0, 1) := by decide +kernel
theorem dX8_cut_19 : decode cX8_cut 19 = .ok (.ireturn, 1) := by decide +kernel
theorem dX8_cut_20 : decode cX8_cut 20 = .ok (.aload_n 0, 1) := by decide +kernel
theorem dX8_cut_21 : decode cX8_cut 21 = .ok (.getfield 38, 3) := by decide +kernel
theorem dX8_cut_24 : decode cX8_cut 24 = .ok (.iload_n 1, 1) := by decide +kernel
theorem dX8_cut_25 : decode cX8_cut 25 = .ok (.iload_n 2, 1) := by decide +kernel
theorem dX8_cut_26 : decode cX8_cut 26 = .ok (.bastore, 1) := by decide +kernel
theorem dX8_cut_27 : decode cX8_cut 27 = .ok (.aload_n 0, 1) := by decide +kernel
theorem dX8_cut_28 : decode cX8_cut 28 = .ok (.iconst 0, 1) := by decide +kernel
theorem dX8_cut_29 : decode cX8_cut 29 = .ok (.putfield 96, 3) := by decide +kernel
theorem dX8_cut_32 : decode cX8_cut 32 = .ok (.iconst 1, 1) := by decide +kernel
theorem dX8_cut_33 : decode cX8_cut 33 = .ok (.ireturn, 1) := by decide +kernel
def M_cut (N : Nat) (x1 : Int32) (x2 : Int32) (σ0 : St) : Option (Int32 × St) := if (M_isLine x1 σ0) = 0 then some (0, σ0) else grd (inb x1 14) (if (σ0.2.1 4 (x1).toNatClampNeg) = x2 then some (0, σ0) else grd (inb x1 14) (lt (sa σ0 4 (x1).toNatClampNeg (vp_nar .boolean x2)) (fun σ5 => lt (si σ5 8 0) (fun σ6 => some (1, σ6)))))
abbrev rm_M_cut : Room := { frames := 2, cells := 0, slots := 0, locals := 43 }
set_option maxHeartbeats 4000000 in
set_option maxRecDepth 100000 in
theorem k_M_cut (l : Launch) (ad : Nat → Nat) (cI cJ cZ : ClassId) {N : Nat} {x1 : Int32} {x2 : Int32} {σ0 : St} {r : Int32} {τ : St} (hf : M_cut N x1 x2 σ0 = some (r, τ)) : CtI l yX8_cut (gws (.code yX8_cut cX8_cut 3 (some .boolean))) (rm_M_cut) (ty3 cI cJ cZ) (mw ad cI cZ) [.ref (ad 0), .int x1, .int x2] σ0 r τ := by
  refine CtI.of (by decide) (mw_ok ad cI cZ) (Nat.le_of_ble_eq_true rfl) ?_
  generalize hav : ([.ref (ad 0), .int x1, .int x2] : List Value) = av
  intro p e s m below meth c D A hC ls hl hP hS
  obtain ⟨hx, hb, hr, hlocks, hml, hown, hts, hK, hN, hD, hA⟩ := id hC
  rw [← hav] at hl
  have hl : lv_has ls 3 [(0, .ref (ad 0)), (1, .int x1), (2, .int x2)] := hl
  unfold M_cut at hf
  obtain ⟨H, hH⟩ : ∃ z, z = s.heap := ⟨_, rfl⟩
  obtain ⟨locs, hlocs⟩ : ∃ z : List Loc, z = [] := ⟨_, rfl⟩
  rw [← hH] at hP
  have hS : va_S A s.heap H locs := by rw [hH, hlocs]; exact va_S.rf
  suffices hgoal : W p l e _ s m _ below meth c H locs 0 0 _ _ by rw [hH, hlocs] at hgoal; exact hgoal
  refine lv_aload_n hx hb dX8_cut_0 rfl (lv_at hl 0 rfl) ?_
  refine lv_iload_n hx hb dX8_cut_1 rfl (lv_at hl 1 rfl) ?_
  refine cVi (As := [.int x1]) (rest := []) hC (k_M_isLine l ad cI cJ cZ rfl) yy_X8_isLine tw_830 rfl rfl ⟨by decide, by decide⟩ hP hS (q0 := 0) (ci := 8) rfl rfl (mwa_0 ..) rfl hl.1 rfl (Nat.le_of_ble_eq_true rfl) dX8_cut_2 (fun H locs hP hS => ?_)
  refine lv_if_eq (tgt := 18) hx hb dX8_cut_5 (by decide) (fun c1 => ?_) (fun c1 => ?_)
  · rw [if_pos c1] at hf
    refine lv_iconst (v := 0) hx hb dX8_cut_18 (by decide) ?_
    obtain ⟨h1, h2⟩ := ret2 hf
    exact retZ hx hb hr hlocks hP hS (Or.inl rfl) h1 h2 dX8_cut_19
  rw [if_neg c1] at hf
  refine lv_aload_n hx hb dX8_cut_8 rfl (lv_at hl 0 rfl) ?_
  refine mg_0_12 hC hP tw_731 dX8_cut_9 ?_
  refine lv_iload_n hx hb dX8_cut_12 rfl (lv_at hl 1 rfl) ?_
  obtain ⟨g2, hf⟩ := grd_some hf
  refine ml_5 hC hP g2 dX8_cut_13 ?_
  refine lv_iload_n hx hb dX8_cut_14 rfl (lv_at hl 2 rfl) ?_
  refine lv_icmp_ne (tgt := 20) hx hb dX8_cut_15 (by decide) (fun c3 => ?_) (fun c3 => ?_)
  · rw [if_neg c3] at hf
    refine lv_aload_n hx hb dX8_cut_20 rfl (lv_at hl 0 rfl) ?_
    refine mg_0_12 hC hP tw_731 dX8_cut_21 ?_
    refine lv_iload_n hx hb dX8_cut_24 rfl (lv_at hl 1 rfl) ?_
    refine lv_iload_n hx hb dX8_cut_25 rfl (lv_at hl 2 rfl) ?_
    obtain ⟨g4, hf⟩ := grd_some hf
    refine ms_5 hC hP hS g4 dX8_cut_26 (fun H locs hP hS => ?_)
    obtain ⟨σ5, eσ5, hf⟩ := lt_e hf
    rw [← eσ5] at hP
    refine lv_aload_n hx hb dX8_cut_27 rfl (lv_at hl 0 rfl) ?_
    refine lv_iconst (v := 0) hx hb dX8_cut_28 (by decide) ?_
    refine mp_0_18 hC hP hS (by first | exact Or.inl rfl | exact Or.inr rfl) tw_737 dX8_cut_29 (fun H locs hP hS => ?_)
    obtain ⟨σ6, eσ6, hf⟩ := lt_e hf
    rw [← eσ6] at hP
    refine lv_iconst (v := 1) hx hb dX8_cut_32 (by decide) ?_
    obtain ⟨h1, h2⟩ := ret2 hf
    exact retZ hx hb hr hlocks hP hS (Or.inr rfl) h1 h2 dX8_cut_33
  rw [if_pos c3] at hf
  refine lv_iconst (v := 0) hx hb dX8_cut_18 (by decide) ?_
  obtain ⟨h1, h2⟩ := ret2 hf
  exact retZ hx hb hr hlocks hP hS (Or.inl rfl) h1 h2 dX8_cut_19
theorem dX8_price_0 : decode cX8_price 0 = .ok (.aload_n 0, 1) := by decide +kernel
theorem dX8_price_1 : decode cX8_price 1 = .ok (.iload_n 1, 1) := by decide +kernel
theorem dX8_price_2 : decode cX8_price 2 = .ok (.invokevirtual 108, 3) := by decide +kernel
theorem dX8_price_5 : decode cX8_price 5 = .ok (.ifCond .eq 14, 3) := by decide +kernel
theorem dX8_price_8 : decode cX8_price 8 = .ok (.iload_n 2, 1) := by decide +kernel
theorem dX8_price_9 : decode cX8_price 9 = .ok (.iconst 0, 1) := by decide +kernel
theorem dX8_price_10 : decode cX8_price 10 = .ok (.sipush 999, 3) := by decide +kernel
theorem dX8_price_13 : decode cX8_price 13 = .ok (.invokestatic 100, 3) := by decide +kernel
theorem dX8_price_16 : decode cX8_price 16 = .ok (.ifCond .ne 5, 3) := by decide +kernel
theorem dX8_price_19 : decode cX8_price 19 = .ok (.iconst 0, 1) := by decide +kernel
theorem dX8_price_20 : decode cX8_price 20 = .ok (.ireturn, 1) := by decide +kernel
theorem dX8_price_21 : decode cX8_price 21 = .ok (.aload_n 0, 1) := by decide +kernel
theorem dX8_price_22 : decode cX8_price 22 = .ok (.getfield 32, 3) := by decide +kernel
theorem dX8_price_25 : decode cX8_price 25 = .ok (.iload_n 1, 1) := by decide +kernel
theorem dX8_price_26 : decode cX8_price 26 = .ok (.iload_n 2, 1) := by decide +kernel
theorem dX8_price_27 : decode cX8_price 27 = .ok (.iastore, 1) := by decide +kernel
theorem dX8_price_28 : decode cX8_price 28 = .ok (.aload_n 0, 1) := by decide +kernel
theorem dX8_price_29 : decode cX8_price 29 = .ok (.iconst 0, 1) := by decide +kernel
theorem dX8_price_30 : decode cX8_price 30 = .ok (.putfield 96, 3) := by decide +kernel
theorem dX8_price_33 : decode cX8_price 33 = .ok (.iconst 1, 1) := by decide +kernel
theorem dX8_price_34 : decode cX8_price 34 = .ok (.ireturn, 1) := by decide +kernel
def M_price (N : Nat) (x1 : Int32) (x2 : Int32) (σ0 : St) : Option (Int32 × St) := if (M_isLine x1 σ0) = 0 then some (0, σ0) else if (M_lies x2 0 999) = 0 then some (0, σ0) else grd (inb x1 14) (lt (sa σ0 2 (x1).toNatClampNeg x2) (fun σ4 => lt (si σ4 8 0) (fun σ5 => some (1, σ5))))
abbrev rm_M_price : Room := { frames := 2, cells := 0, slots := 0, locals := 43 }
set_option maxHeartbeats 4000000 in
set_option maxRecDepth 100000 in
theorem k_M_price (l : Launch) (ad : Nat → Nat) (cI cJ cZ : ClassId) {N : Nat} {x1 : Int32} {x2 : Int32} {σ0 : St} {r : Int32} {τ : St} (hf : M_price N x1 x2 σ0 = some (r, τ)) : CtI l yX8_price (gws (.code yX8_price cX8_price 3 (some .boolean))) (rm_M_price) (ty3 cI cJ cZ) (mw ad cI cZ) [.ref (ad 0), .int x1, .int x2] σ0 r τ := by
  refine CtI.of (by decide) (mw_ok ad cI cZ) (Nat.le_of_ble_eq_true rfl) ?_
  generalize hav : ([.ref (ad 0), .int x1, .int x2] : List Value) = av
  intro p e s m below meth c D A hC ls hl hP hS
  obtain ⟨hx, hb, hr, hlocks, hml, hown, hts, hK, hN, hD, hA⟩ := id hC
  rw [← hav] at hl
  have hl : lv_has ls 3 [(0, .ref (ad 0)), (1, .int x1), (2, .int x2)] := hl
  unfold M_price at hf
  obtain ⟨H, hH⟩ : ∃ z, z = s.heap := ⟨_, rfl⟩
  obtain ⟨locs, hlocs⟩ : ∃ z : List Loc, z = [] := ⟨_, rfl⟩
  rw [← hH] at hP
  have hS : va_S A s.heap H locs := by rw [hH, hlocs]; exact va_S.rf
  suffices hgoal : W p l e _ s m _ below meth c H locs 0 0 _ _ by rw [hH, hlocs] at hgoal; exact hgoal
  refine lv_aload_n hx hb dX8_price_0 rfl (lv_at hl 0 rfl) ?_
  refine lv_iload_n hx hb dX8_price_1 rfl (lv_at hl 1 rfl) ?_
  refine cVi (As := [.int x1]) (rest := []) hC (k_M_isLine l ad cI cJ cZ rfl) yy_X8_isLine tw_830 rfl rfl ⟨by decide, by decide⟩ hP hS (q0 := 0) (ci := 8) rfl rfl (mwa_0 ..) rfl hl.1 rfl (Nat.le_of_ble_eq_true rfl) dX8_price_2 (fun H locs hP hS => ?_)
  refine lv_if_eq (tgt := 19) hx hb dX8_price_5 (by decide) (fun c1 => ?_) (fun c1 => ?_)
  · rw [if_pos c1] at hf
    refine lv_iconst (v := 0) hx hb dX8_price_19 (by decide) ?_
    obtain ⟨h1, h2⟩ := ret2 hf
    exact retZ hx hb hr hlocks hP hS (Or.inl rfl) h1 h2 dX8_price_20
  rw [if_neg c1] at hf
  refine lv_iload_n hx hb dX8_price_8 rfl (lv_at hl 2 rfl) ?_
  refine lv_iconst (v := 0) hx hb dX8_price_9 (by decide) ?_
  refine lv_sipush (v := 999) hx hb dX8_price_10 (by decide) ?_
  refine cSi (As := [.int x2, .int 0, .int 999]) (rest := []) hC (k_M_lies l (mw ad cI cZ) (mw_ok ad cI cZ) (ty3 cI cJ cZ) _ rfl) yy_X8_lies tw_815 rfl rfl ⟨by decide, by decide⟩ hP hS rfl hl.1 rfl (Nat.le_of_ble_eq_true rfl) dX8_price_13 (fun H locs hP hS => ?_)
  refine lv_if_ne (tgt := 21) hx hb dX8_price_16 (by decide) (fun c2 => ?_) (fun c2 => ?_)
  · rw [if_neg c2] at hf
    refine lv_aload_n hx hb dX8_price_21 rfl (lv_at hl 0 rfl) ?_
    refine mg_0_10 hC hP tw_729 dX8_price_22 ?_
    refine lv_iload_n hx hb dX8_price_25 rfl (lv_at hl 1 rfl) ?_
    refine lv_iload_n hx hb dX8_price_26 rfl (lv_at hl 2 rfl) ?_
    obtain ⟨g3, hf⟩ := grd_some hf
    refine ms_3 hC hP hS g3 dX8_price_27 (fun H locs hP hS => ?_)
    obtain ⟨σ4, eσ4, hf⟩ := lt_e hf
    rw [← eσ4] at hP
    refine lv_aload_n hx hb dX8_price_28 rfl (lv_at hl 0 rfl) ?_
    refine lv_iconst (v := 0) hx hb dX8_price_29 (by decide) ?_
    refine mp_0_18 hC hP hS (by first | exact Or.inl rfl | exact Or.inr rfl) tw_737 dX8_price_30 (fun H locs hP hS => ?_)
    obtain ⟨σ5, eσ5, hf⟩ := lt_e hf
    rw [← eσ5] at hP
    refine lv_iconst (v := 1) hx hb dX8_price_33 (by decide) ?_
    obtain ⟨h1, h2⟩ := ret2 hf
    exact retZ hx hb hr hlocks hP hS (Or.inr rfl) h1 h2 dX8_price_34
  rw [if_pos c2] at hf
  refine lv_iconst (v := 0) hx hb dX8_price_19 (by decide) ?_
  obtain ⟨h1, h2⟩ := ret2 hf
  exact retZ hx hb hr hlocks hP hS (Or.inl rfl) h1 h2 dX8_price_20
theorem dX8_degree_0 : decode cX8_degree 0 = .ok (.aload_n 0, 1) := by decide +kernel
theorem dX8_degree_1 : decode cX8_degree 1 = .ok (.iload_n 1, 1) := by decide +kernel
theorem dX8_degree_2 : decode cX8_degree 2 = .ok (.invokevirtual 104, 3) := by decide +kernel
theorem dX8_degree_5 : decode cX8_degree 5 = .ok (.ifCond .eq 13, 3) := by decide +kernel
theorem dX8_degree_8 : decode cX8_degree 8 = .ok (.iload_n 2, 1) := by decide +kernel
theorem dX8_degree_9 : decode cX8_degree 9 = .ok (.iconst 0, 1) := by decide +kernel
theorem dX8_degree_10 : decode cX8_degree 10 = .ok (.bipush 14, 2) := by decide +kernel
theorem dX8_degree_12 : decode cX8_degree 12 = .ok (.invokestatic 100, 3) := by decide +kernel
theorem dX8_degree_15 : decode cX8_degree 15 = .ok (.ifCond .ne 5, 3) := by decide +kernel
theorem dX8_degree_18 : decode cX8_degree 18 = .ok (.iconst 0, 1) := by decide +kernel
theorem dX8_degree_19 : decode cX8_degree 19 = .ok (.ireturn, 1) := by decide +kernel
theorem dX8_degree_20 : decode cX8_degree 20 = .ok (.aload_n 0, 1) := by decide +kernel
theorem dX8_degree_21 : decode cX8_degree 21 = .ok (.getfield 42, 3) := by decide +kernel
theorem dX8_degree_24 : decode cX8_degree 24 = .ok (.iload_n 1, 1) := by decide +kernel
theorem dX8_degree_25 : decode cX8_degree 25 = .ok (.iload_n 2, 1) := by decide +kernel
theorem dX8_degree_26 : decode cX8_degree 26 = .ok (.iastore, 1) := by decide +kernel
theorem dX8_degree_27 : decode cX8_degree 27 = .ok (.aload_n 0, 1) := by decide +kernel
theorem dX8_degree_28 : decode cX8_degree 28 = .ok (.iconst 0, 1) := by decide +kernel
theorem dX8_degree_29 : decode cX8_degree 29 = .ok (.putfield 96, 3) := by decide +kernel
theorem dX8_degree_32 : decode cX8_degree 32 = .ok (.iconst 1, 1) := by decide +kernel
theorem dX8_degree_33 : decode cX8_degree 33 = .ok (.ireturn, 1) := by decide +kernel
def M_degree (N : Nat) (x1 : Int32) (x2 : Int32) (σ0 : St) : Option (Int32 × St) := if (M_isPost x1 σ0) = 0 then some (0, σ0) else if (M_lies x2 0 14) = 0 then some (0, σ0) else grd (inb x1 8) (lt (sa σ0 5 (x1).toNatClampNeg x2) (fun σ4 => lt (si σ4 8 0) (fun σ5 => some (1, σ5))))
abbrev rm_M_degree : Room := { frames := 2, cells := 0, slots := 0, locals := 43 }
set_option maxHeartbeats 4000000 in
set_option maxRecDepth 100000 in
theorem k_M_degree (l : Launch) (ad : Nat → Nat) (cI cJ cZ : ClassId) {N : Nat} {x1 : Int32} {x2 : Int32} {σ0 : St} {r : Int32} {τ : St} (hf : M_degree N x1 x2 σ0 = some (r, τ)) : CtI l yX8_degree (gws (.code yX8_degree cX8_degree 3 (some .boolean))) (rm_M_degree) (ty3 cI cJ cZ) (mw ad cI cZ) [.ref (ad 0), .int x1, .int x2] σ0 r τ := by
  refine CtI.of (by decide) (mw_ok ad cI cZ) (Nat.le_of_ble_eq_true rfl) ?_
  generalize hav : ([.ref (ad 0), .int x1, .int x2] : List Value) = av
  intro p e s m below meth c D A hC ls hl hP hS
  obtain ⟨hx, hb, hr, hlocks, hml, hown, hts, hK, hN, hD, hA⟩ := id hC
  rw [← hav] at hl
  have hl : lv_has ls 3 [(0, .ref (ad 0)), (1, .int x1), (2, .int x2)] := hl
  unfold M_degree at hf
  obtain ⟨H, hH⟩ : ∃ z, z = s.heap := ⟨_, rfl⟩
  obtain ⟨locs, hlocs⟩ : ∃ z : List Loc, z = [] := ⟨_, rfl⟩
  rw [← hH] at hP
  have hS : va_S A s.heap H locs := by rw [hH, hlocs]; exact va_S.rf
  suffices hgoal : W p l e _ s m _ below meth c H locs 0 0 _ _ by rw [hH, hlocs] at hgoal; exact hgoal
  refine lv_aload_n hx hb dX8_degree_0 rfl (lv_at hl 0 rfl) ?_
  refine lv_iload_n hx hb dX8_degree_1 rfl (lv_at hl 1 rfl) ?_
  refine cVi (As := [.int x1]) (rest := []) hC (k_M_isPost l ad cI cJ cZ rfl) yy_X8_isPost tw_822 rfl rfl ⟨by decide, by decide⟩ hP hS (q0 := 0) (ci := 8) rfl rfl (mwa_0 ..) rfl hl.1 rfl (Nat.le_of_ble_eq_true rfl) dX8_degree_2 (fun H locs hP hS => ?_)
  refine lv_if_eq (tgt := 18) hx hb dX8_degree_5 (by decide) (fun c1 => ?_) (fun c1 => ?_)
  · rw [if_pos c1] at hf
    refine lv_iconst (v := 0) hx hb dX8_degree_18 (by decide) ?_
    obtain ⟨h1, h2⟩ := ret2 hf
    exact retZ hx hb hr hlocks hP hS (Or.inl rfl) h1 h2 dX8_degree_19
  rw [if_neg c1] at hf
  refine lv_iload_n hx hb dX8_degree_8 rfl (lv_at hl 2 rfl) ?_
  refine lv_iconst (v := 0) hx hb dX8_degree_9 (by decide) ?_
  refine lv_bipush (v := 14) hx hb dX8_degree_10 (by decide) ?_
  refine cSi (As := [.int x2, .int 0, .int 14]) (rest := []) hC (k_M_lies l (mw ad cI cZ) (mw_ok ad cI cZ) (ty3 cI cJ cZ) _ rfl) yy_X8_lies tw_815 rfl rfl ⟨by decide, by decide⟩ hP hS rfl hl.1 rfl (Nat.le_of_ble_eq_true rfl) dX8_degree_12 (fun H locs hP hS => ?_)
  refine lv_if_ne (tgt := 20) hx hb dX8_degree_15 (by decide) (fun c2 => ?_) (fun c2 => ?_)
  · rw [if_neg c2] at hf
    refine lv_aload_n hx hb dX8_degree_20 rfl (lv_at hl 0 rfl) ?_
    refine mg_0_13 hC hP tw_732 dX8_degree_21 ?_
    refine lv_iload_n hx hb dX8_degree_24 rfl (lv_at hl 1 rfl) ?_
    refine lv_iload_n hx hb dX8_degree_25 rfl (lv_at hl 2 rfl) ?_
    obtain ⟨g3, hf⟩ := grd_some hf
    refine ms_6 hC hP hS g3 dX8_degree_26 (fun H locs hP hS => ?_)
    obtain ⟨σ4, eσ4, hf⟩ := lt_e hf
    rw [← eσ4] at hP
    refine lv_aload_n hx hb dX8_degree_27 rfl (lv_at hl 0 rfl) ?_
    refine lv_iconst (v := 0) hx hb dX8_degree_28 (by decide) ?_
    refine mp_0_18 hC hP hS (by first | exact Or.inl rfl | exact Or.inr rfl) tw_737 dX8_degree_29 (fun H locs hP hS => ?_)
    obtain ⟨σ5, eσ5, hf⟩ := lt_e hf
    rw [← eσ5] at hP
    refine lv_iconst (v := 1) hx hb dX8_degree_32 (by decide) ?_
    obtain ⟨h1, h2⟩ := ret2 hf
    exact retZ hx hb hr hlocks hP hS (Or.inr rfl) h1 h2 dX8_degree_33
  rw [if_pos c2] at hf
  refine lv_iconst (v := 0) hx hb dX8_degree_18 (by decide) ?_
  obtain ⟨h1, h2⟩ := ret2 hf
  exact retZ hx hb hr hlocks hP hS (Or.inl rfl) h1 h2 dX8_degree_19
theorem dX8_depth_0 : decode cX8_depth 0 = .ok (.iload_n 1, 1) := by decide +kernel
theorem dX8_depth_1 : decode cX8_depth 1 = .ok (.iconst 0, 1) := by decide +kernel
theorem dX8_depth_2 : decode cX8_depth 2 = .ok (.bipush 7, 2) := by decide +kernel
theorem dX8_depth_4 : decode cX8_depth 4 = .ok (.invokestatic 100, 3) := by decide +kernel
theorem dX8_depth_7 : decode cX8_depth 7 = .ok (.ifCond .ne 5, 3) := by decide +kernel
theorem dX8_depth_10 : decode cX8_depth 10 = .ok (.iconst 0, 1) := by decide +kernel
theorem dX8_depth_11 : decode cX8_depth 11 = .ok (.ireturn, 1) := by decide +kernel
theorem dX8_depth_12 : decode cX8_depth 12 = .ok (.aload_n 0, 1) := by decide +kernel
theorem dX8_depth_13 : decode cX8_depth 13 = .ok (.iload_n 1, 1) := by decide +kernel
theorem dX8_depth_14 : decode cX8_depth 14 = .ok (.putfield 13, 3) := by decide +kernel
theorem dX8_depth_17 : decode cX8_depth 17 = .ok (.aload_n 0, 1) := by decide +kernel
theorem dX8_depth_18 : decode cX8_depth 18 = .ok (.iconst 0, 1) := by decide +kernel
theorem dX8_depth_19 : decode cX8_depth 19 = .ok (.putfield 96, 3) := by decide +kernel
theorem dX8_depth_22 : decode cX8_depth 22 = .ok (.iconst 1, 1) := by decide +kernel
theorem dX8_depth_23 : decode cX8_depth 23 = .ok (.ireturn, 1) := by decide +kernel
def M_depth (x1 : Int32) (σ0 : St) : (Int32 × St) := if (M_lies x1 0 7) = 0 then (0, σ0) else lt (si σ0 3 x1) (fun σ2 => lt (si σ2 8 0) (fun σ3 => (1, σ3)))
abbrev rm_M_depth : Room := { frames := 1, cells := 0, slots := 0, locals := 22 }
set_option maxHeartbeats 4000000 in
set_option maxRecDepth 100000 in
theorem k_M_depth (l : Launch) (ad : Nat → Nat) (cI cJ cZ : ClassId) {x1 : Int32} {σ0 : St} {r : Int32} {τ : St} (hf : M_depth x1 σ0 = (r, τ)) : CtI l yX8_depth (gws (.code yX8_depth cX8_depth 2 (some .boolean))) (rm_M_depth) (ty3 cI cJ cZ) (mw ad cI cZ) [.ref (ad 0), .int x1] σ0 r τ := by
  refine CtI.of (by decide) (mw_ok ad cI cZ) (Nat.le_of_ble_eq_true rfl) ?_
  generalize hav : ([.ref (ad 0), .int x1] : List Value) = av
  intro p e s m below meth c D A hC ls hl hP hS
  obtain ⟨hx, hb, hr, hlocks, hml, hown, hts, hK, hN, hD, hA⟩ := id hC
  rw [← hav] at hl
  have hl : lv_has ls 2 [(0, .ref (ad 0)), (1, .int x1)] := hl
  unfold M_depth at hf
  obtain ⟨H, hH⟩ : ∃ z, z = s.heap := ⟨_, rfl⟩
  obtain ⟨locs, hlocs⟩ : ∃ z : List Loc, z = [] := ⟨_, rfl⟩
  rw [← hH] at hP
  have hS : va_S A s.heap H locs := by rw [hH, hlocs]; exact va_S.rf
  suffices hgoal : W p l e _ s m _ below meth c H locs 0 0 _ _ by rw [hH, hlocs] at hgoal; exact hgoal
  refine lv_iload_n hx hb dX8_depth_0 rfl (lv_at hl 1 rfl) ?_
  refine lv_iconst (v := 0) hx hb dX8_depth_1 (by decide) ?_
  refine lv_bipush (v := 7) hx hb dX8_depth_2 (by decide) ?_
  refine cSi (As := [.int x1, .int 0, .int 7]) (rest := []) hC (k_M_lies l (mw ad cI cZ) (mw_ok ad cI cZ) (ty3 cI cJ cZ) _ rfl) yy_X8_lies tw_815 rfl rfl ⟨by decide, by decide⟩ hP hS rfl hl.1 rfl (Nat.le_of_ble_eq_true rfl) dX8_depth_4 (fun H locs hP hS => ?_)
  refine lv_if_ne (tgt := 12) hx hb dX8_depth_7 (by decide) (fun c1 => ?_) (fun c1 => ?_)
  · rw [if_neg c1] at hf
    refine lv_aload_n hx hb dX8_depth_12 rfl (lv_at hl 0 rfl) ?_
    refine lv_iload_n hx hb dX8_depth_13 rfl (lv_at hl 1 rfl) ?_
    refine mp_0_3 hC hP hS tw_722 dX8_depth_14 (fun H locs hP hS => ?_)
    obtain ⟨σ2, eσ2, hf⟩ := lt_e hf
    rw [← eσ2] at hP
    refine lv_aload_n hx hb dX8_depth_17 rfl (lv_at hl 0 rfl) ?_
    refine lv_iconst (v := 0) hx hb dX8_depth_18 (by decide) ?_
    refine mp_0_18 hC hP hS (by first | exact Or.inl rfl | exact Or.inr rfl) tw_737 dX8_depth_19 (fun H locs hP hS => ?_)
    obtain ⟨σ3, eσ3, hf⟩ := lt_e hf
    rw [← eσ3] at hP
    refine lv_iconst (v := 1) hx hb dX8_depth_22 (by decide) ?_
    obtain ⟨h1, h2⟩ := ret2t hf
    exact retZ hx hb hr hlocks hP hS (Or.inr rfl) h1 h2 dX8_depth_23
  rw [if_pos c1] at hf
  refine lv_iconst (v := 0) hx hb dX8_depth_10 (by decide) ?_
  obtain ⟨h1, h2⟩ := ret2t hf
  exact retZ hx hb hr hlocks hP hS (Or.inl rfl) h1 h2 dX8_depth_11
theorem dX8_root_0 : decode cX8_root 0 = .ok (.aload_n 0, 1) := by decide +kernel
theorem dX8_root_1 : decode cX8_root 1 = .ok (.iload_n 1, 1) := by decide +kernel
theorem dX8_root_2 : decode cX8_root 2 = .ok (.invokevirtual 104, 3) := by decide +kernel
theorem dX8_root_5 : decode cX8_root 5 = .ok (.ifCond .ne 5, 3) := by decide +kernel
theorem dX8_root_8 : decode cX8_root 8 = .ok (.iconst 0, 1) := by decide +kernel
theorem dX8_root_9 : decode cX8_root 9 = .ok (.ireturn, 1) := by decide +kernel
theorem dX8_root_10 : decode cX8_root 10 = .ok (.aload_n 0, 1) := by decide +kernel
theorem dX8_root_11 : decode cX8_root 11 = .ok (.iload_n 1, 1) := by decide +kernel
theorem dX8_root_12 : decode cX8_root 12 = .ok (.putfield 90, 3) := by decide +kernel
theorem dX8_root_15 : decode cX8_root 15 = .ok (.aload_n 0, 1) := by decide +kernel
theorem dX8_root_16 : decode cX8_root 16 = .ok (.iconst 0, 1) := by decide +kernel
theorem dX8_root_17 : decode cX8_root 17 = .ok (.putfield 96, 3) := by decide +kernel
theorem dX8_root_20 : decode cX8_root 20 = .ok (.iconst 1, 1) := by decide +kernel
theorem dX8_root_21 : decode cX8_root 21 = .ok (.ireturn, 1) := by decide +kernel
def M_root (x1 : Int32) (σ0 : St) : (Int32 × St) := if (M_isPost x1 σ0) = 0 then (0, σ0) else lt (si σ0 2 x1) (fun σ2 => lt (si σ2 8 0) (fun σ3 => (1, σ3)))
abbrev rm_M_root : Room := { frames := 2, cells := 0, slots := 0, locals := 43 }
set_option maxHeartbeats 4000000 in
set_option maxRecDepth 100000 in
theorem k_M_root (l : Launch) (ad : Nat → Nat) (cI cJ cZ : ClassId) {x1 : Int32} {σ0 : St} {r : Int32} {τ : St} (hf : M_root x1 σ0 = (r, τ)) : CtI l yX8_root (gws (.code yX8_root cX8_root 2 (some .boolean))) (rm_M_root) (ty3 cI cJ cZ) (mw ad cI cZ) [.ref (ad 0), .int x1] σ0 r τ := by
  refine CtI.of (by decide) (mw_ok ad cI cZ) (Nat.le_of_ble_eq_true rfl) ?_
  generalize hav : ([.ref (ad 0), .int x1] : List Value) = av
  intro p e s m below meth c D A hC ls hl hP hS
  obtain ⟨hx, hb, hr, hlocks, hml, hown, hts, hK, hN, hD, hA⟩ := id hC
  rw [← hav] at hl
  have hl : lv_has ls 2 [(0, .ref (ad 0)), (1, .int x1)] := hl
  unfold M_root at hf
  obtain ⟨H, hH⟩ : ∃ z, z = s.heap := ⟨_, rfl⟩
  obtain ⟨locs, hlocs⟩ : ∃ z : List Loc, z = [] := ⟨_, rfl⟩
  rw [← hH] at hP
  have hS : va_S A s.heap H locs := by rw [hH, hlocs]; exact va_S.rf
  suffices hgoal : W p l e _ s m _ below meth c H locs 0 0 _ _ by rw [hH, hlocs] at hgoal; exact hgoal
  refine lv_aload_n hx hb dX8_root_0 rfl (lv_at hl 0 rfl) ?_
  refine lv_iload_n hx hb dX8_root_1 rfl (lv_at hl 1 rfl) ?_
  refine cVi (As := [.int x1]) (rest := []) hC (k_M_isPost l ad cI cJ cZ rfl) yy_X8_isPost tw_822 rfl rfl ⟨by decide, by decide⟩ hP hS (q0 := 0) (ci := 8) rfl rfl (mwa_0 ..) rfl hl.1 rfl (Nat.le_of_ble_eq_true rfl) dX8_root_2 (fun H locs hP hS => ?_)
  refine lv_if_ne (tgt := 10) hx hb dX8_root_5 (by decide) (fun c1 => ?_) (fun c1 => ?_)
  · rw [if_neg c1] at hf
    refine lv_aload_n hx hb dX8_root_10 rfl (lv_at hl 0 rfl) ?_
    refine lv_iload_n hx hb dX8_root_11 rfl (lv_at hl 1 rfl) ?_
    refine mp_0_2 hC hP hS tw_721 dX8_root_12 (fun H locs hP hS => ?_)
    obtain ⟨σ2, eσ2, hf⟩ := lt_e hf
    rw [← eσ2] at hP
    refine lv_aload_n hx hb dX8_root_15 rfl (lv_at hl 0 rfl) ?_
    refine lv_iconst (v := 0) hx hb dX8_root_16 (by decide) ?_
    refine mp_0_18 hC hP hS (by first | exact Or.inl rfl | exact Or.inr rfl) tw_737 dX8_root_17 (fun H locs hP hS => ?_)
    obtain ⟨σ3, eσ3, hf⟩ := lt_e hf
    rw [← eσ3] at hP
    refine lv_iconst (v := 1) hx hb dX8_root_20 (by decide) ?_
    obtain ⟨h1, h2⟩ := ret2t hf
    exact retZ hx hb hr hlocks hP hS (Or.inr rfl) h1 h2 dX8_root_21
  rw [if_pos c1] at hf
  refine lv_iconst (v := 0) hx hb dX8_root_8 (by decide) ?_
  obtain ⟨h1, h2⟩ := ret2t hf
  exact retZ hx hb hr hlocks hP hS (Or.inl rfl) h1 h2 dX8_root_9
theorem dX8_load_0 : decode cX8_load 0 = .ok (.iload_n 1, 1) := by decide +kernel
theorem dX8_load_1 : decode cX8_load 1 = .ok (.iconst 0, 1) := by decide +kernel
theorem dX8_load_2 : decode cX8_load 2 = .ok (.sipush 9999, 3) := by decide +kernel
theorem dX8_load_5 : decode cX8_load 5 = .ok (.invokestatic 100, 3) := by decide +kernel
theorem dX8_load_8 : decode cX8_load 8 = .ok (.ifCond .ne 5, 3) := by decide +kernel
theorem dX8_load_11 : decode cX8_load 11 = .ok (.iconst 0, 1) := by decide +kernel
theorem dX8_load_12 : decode cX8_load 12 = .ok (.ireturn, 1) := by decide +kernel
theorem dX8_load_13 : decode cX8_load 13 = .ok (.aload_n 0, 1) := by decide +kernel
theorem dX8_load_14 : decode cX8_load 14 = .ok (.iload_n 1, 1) := by decide +kernel
theorem dX8_load_15 : decode cX8_load 15 = .ok (.putfield 16, 3) := by decide +kernel
theorem dX8_load_18 : decode cX8_load 18 = .ok (.aload_n 0, 1) := by decide +kernel
theorem dX8_load_19 : decode cX8_load 19 = .ok (.iconst 0, 1) := by decide +kernel
theorem dX8_load_20 : decode cX8_load 20 = .ok (.putfield 96, 3) := by decide +kernel
theorem dX8_load_23 : decode cX8_load 23 = .ok (.iconst 1, 1) := by decide +kernel
theorem dX8_load_24 : decode cX8_load 24 = .ok (.ireturn, 1) := by decide +kernel
def M_load (x1 : Int32) (σ0 : St) : (Int32 × St) := if (M_lies x1 0 9999) = 0 then (0, σ0) else lt (si σ0 4 x1) (fun σ2 => lt (si σ2 8 0) (fun σ3 => (1, σ3)))
abbrev rm_M_load : Room := { frames := 1, cells := 0, slots := 0, locals := 22 }
set_option maxHeartbeats 4000000 in
set_option maxRecDepth 100000 in
theorem k_M_load (l : Launch) (ad : Nat → Nat) (cI cJ cZ : ClassId) {x1 : Int32} {σ0 : St} {r : Int32} {τ : St} (hf : M_load x1 σ0 = (r, τ)) : CtI l yX8_load (gws (.code yX8_load cX8_load 2 (some .boolean))) (rm_M_load) (ty3 cI cJ cZ) (mw ad cI cZ) [.ref (ad 0), .int x1] σ0 r τ := by
  refine CtI.of (by decide) (mw_ok ad cI cZ) (Nat.le_of_ble_eq_true rfl) ?_
  generalize hav : ([.ref (ad 0), .int x1] : List Value) = av
  intro p e s m below meth c D A hC ls hl hP hS
  obtain ⟨hx, hb, hr, hlocks, hml, hown, hts, hK, hN, hD, hA⟩ := id hC
  rw [← hav] at hl
  have hl : lv_has ls 2 [(0, .ref (ad 0)), (1, .int x1)] := hl
  unfold M_load at hf
  obtain ⟨H, hH⟩ : ∃ z, z = s.heap := ⟨_, rfl⟩
  obtain ⟨locs, hlocs⟩ : ∃ z : List Loc, z = [] := ⟨_, rfl⟩
  rw [← hH] at hP
  have hS : va_S A s.heap H locs := by rw [hH, hlocs]; exact va_S.rf
  suffices hgoal : W p l e _ s m _ below meth c H locs 0 0 _ _ by rw [hH, hlocs] at hgoal; exact hgoal
  refine lv_iload_n hx hb dX8_load_0 rfl (lv_at hl 1 rfl) ?_
  refine lv_iconst (v := 0) hx hb dX8_load_1 (by decide) ?_
  refine lv_sipush (v := 9999) hx hb dX8_load_2 (by decide) ?_
  refine cSi (As := [.int x1, .int 0, .int 9999]) (rest := []) hC (k_M_lies l (mw ad cI cZ) (mw_ok ad cI cZ) (ty3 cI cJ cZ) _ rfl) yy_X8_lies tw_815 rfl rfl ⟨by decide, by decide⟩ hP hS rfl hl.1 rfl (Nat.le_of_ble_eq_true rfl) dX8_load_5 (fun H locs hP hS => ?_)
  refine lv_if_ne (tgt := 13) hx hb dX8_load_8 (by decide) (fun c1 => ?_) (fun c1 => ?_)
  · rw [if_neg c1] at hf
    refine lv_aload_n hx hb dX8_load_13 rfl (lv_at hl 0 rfl) ?_
    refine lv_iload_n hx hb dX8_load_14 rfl (lv_at hl 1 rfl) ?_
    refine mp_0_4 hC hP hS tw_723 dX8_load_15 (fun H locs hP hS => ?_)
    obtain ⟨σ2, eσ2, hf⟩ := lt_e hf
    rw [← eσ2] at hP
    refine lv_aload_n hx hb dX8_load_18 rfl (lv_at hl 0 rfl) ?_
    refine lv_iconst (v := 0) hx hb dX8_load_19 (by decide) ?_
    refine mp_0_18 hC hP hS (by first | exact Or.inl rfl | exact Or.inr rfl) tw_737 dX8_load_20 (fun H locs hP hS => ?_)
    obtain ⟨σ3, eσ3, hf⟩ := lt_e hf
    rw [← eσ3] at hP
    refine lv_iconst (v := 1) hx hb dX8_load_23 (by decide) ?_
    obtain ⟨h1, h2⟩ := ret2t hf
    exact retZ hx hb hr hlocks hP hS (Or.inr rfl) h1 h2 dX8_load_24
  rw [if_pos c1] at hf
  refine lv_iconst (v := 0) hx hb dX8_load_11 (by decide) ?_
  obtain ⟨h1, h2⟩ := ret2t hf
  exact retZ hx hb hr hlocks hP hS (Or.inl rfl) h1 h2 dX8_load_12
theorem dX8_demand_0 : decode cX8_demand 0 = .ok (.aload_n 0, 1) := by decide +kernel
theorem dX8_demand_1 : decode cX8_demand 1 = .ok (.iload_n 1, 1) := by decide +kernel
theorem dX8_demand_2 : decode cX8_demand 2 = .ok (.invokevirtual 104, 3) := by decide +kernel
theorem dX8_demand_5 : decode cX8_demand 5 = .ok (.ifCond .eq 13, 3) := by decide +kernel
theorem dX8_demand_8 : decode cX8_demand 8 = .ok (.iload_n 2, 1) := by decide +kernel
theorem dX8_demand_9 : decode cX8_demand 9 = .ok (.iconst 0, 1) := by decide +kernel
theorem dX8_demand_10 : decode cX8_demand 10 = .ok (.bipush 99, 2) := by decide +kernel
theorem dX8_demand_12 : decode cX8_demand 12 = .ok (.invokestatic 100, 3) := by decide +kernel
theorem dX8_demand_15 : decode cX8_demand 15 = .ok (.ifCond .ne 5, 3) := by decide +kernel
theorem dX8_demand_18 : decode cX8_demand 18 = .ok (.iconst 0, 1) := by decide +kernel
theorem dX8_demand_19 : decode cX8_demand 19 = .ok (.ireturn, 1) := by decide +kernel
theorem dX8_demand_20 : decode cX8_demand 20 = .ok (.aload_n 0, 1) := by decide +kernel
theorem dX8_demand_21 : decode cX8_demand 21 = .ok (.getfield 45, 3) := by decide +kernel
theorem dX8_demand_24 : decode cX8_demand 24 = .ok (.iload_n 1, 1) := by decide +kernel
theorem dX8_demand_25 : decode cX8_demand 25 = .ok (.iload_n 2, 1) := by decide +kernel
theorem dX8_demand_26 : decode cX8_demand 26 = .ok (.iastore, 1) := by decide +kernel
theorem dX8_demand_27 : decode cX8_demand 27 = .ok (.aload_n 0, 1) := by decide +kernel
theorem dX8_demand_28 : decode cX8_demand 28 = .ok (.iconst 0, 1) := by decide +kernel
theorem dX8_demand_29 : decode cX8_demand 29 = .ok (.putfield 96, 3) := by decide +kernel
theorem dX8_demand_32 : decode cX8_demand 32 = .ok (.iconst 1, 1) := by decide +kernel
theorem dX8_demand_33 : decode cX8_demand 33 = .ok (.ireturn, 1) := by decide +kernel
def M_demand (N : Nat) (x1 : Int32) (x2 : Int32) (σ0 : St) : Option (Int32 × St) := if (M_isPost x1 σ0) = 0 then some (0, σ0) else if (M_lies x2 0 99) = 0 then some (0, σ0) else grd (inb x1 8) (lt (sa σ0 6 (x1).toNatClampNeg x2) (fun σ4 => lt (si σ4 8 0) (fun σ5 => some (1, σ5))))
abbrev rm_M_demand : Room := { frames := 2, cells := 0, slots := 0, locals := 43 }
set_option maxHeartbeats 4000000 in
set_option maxRecDepth 100000 in
theorem k_M_demand (l : Launch) (ad : Nat → Nat) (cI cJ cZ : ClassId) {N : Nat} {x1 : Int32} {x2 : Int32} {σ0 : St} {r : Int32} {τ : St} (hf : M_demand N x1 x2 σ0 = some (r, τ)) : CtI l yX8_demand (gws (.code yX8_demand cX8_demand 3 (some .boolean))) (rm_M_demand) (ty3 cI cJ cZ) (mw ad cI cZ) [.ref (ad 0), .int x1, .int x2] σ0 r τ := by
  refine CtI.of (by decide) (mw_ok ad cI cZ) (Nat.le_of_ble_eq_true rfl) ?_
  generalize hav : ([.ref (ad 0), .int x1, .int x2] : List Value) = av
  intro p e s m below meth c D A hC ls hl hP hS
  obtain ⟨hx, hb, hr, hlocks, hml, hown, hts, hK, hN, hD, hA⟩ := id hC
  rw [← hav] at hl
  have hl : lv_has ls 3 [(0, .ref (ad 0)), (1, .int x1), (2, .int x2)] := hl
  unfold M_demand at hf
  obtain ⟨H, hH⟩ : ∃ z, z = s.heap := ⟨_, rfl⟩
  obtain ⟨locs, hlocs⟩ : ∃ z : List Loc, z = [] := ⟨_, rfl⟩
  rw [← hH] at hP
  have hS : va_S A s.heap H locs := by rw [hH, hlocs]; exact va_S.rf
  suffices hgoal : W p l e _ s m _ below meth c H locs 0 0 _ _ by rw [hH, hlocs] at hgoal; exact hgoal
  refine lv_aload_n hx hb dX8_demand_0 rfl (lv_at hl 0 rfl) ?_
  refine lv_iload_n hx hb dX8_demand_1 rfl (lv_at hl 1 rfl) ?_
  refine cVi (As := [.int x1]) (rest := []) hC (k_M_isPost l ad cI cJ cZ rfl) yy_X8_isPost tw_822 rfl rfl ⟨by decide, by decide⟩ hP hS (q0 := 0) (ci := 8) rfl rfl (mwa_0 ..) rfl hl.1 rfl (Nat.le_of_ble_eq_true rfl) dX8_demand_2 (fun H locs hP hS => ?_)
  refine lv_if_eq (tgt := 18) hx hb dX8_demand_5 (by decide) (fun c1 => ?_) (fun c1 => ?_)
  · rw [if_pos c1] at hf
    refine lv_iconst (v := 0) hx hb dX8_demand_18 (by decide) ?_
    obtain ⟨h1, h2⟩ := ret2 hf
    exact retZ hx hb hr hlocks hP hS (Or.inl rfl) h1 h2 dX8_demand_19
  rw [if_neg c1] at hf
  refine lv_iload_n hx hb dX8_demand_8 rfl (lv_at hl 2 rfl) ?_
  refine lv_iconst (v := 0) hx hb dX8_demand_9 (by decide) ?_
  refine lv_bipush (v := 99) hx hb dX8_demand_10 (by decide) ?_
  refine cSi (As := [.int x2, .int 0, .int 99]) (rest := []) hC (k_M_lies l (mw ad cI cZ) (mw_ok ad cI cZ) (ty3 cI cJ cZ) _ rfl) yy_X8_lies tw_815 rfl rfl ⟨by decide, by decide⟩ hP hS rfl hl.1 rfl (Nat.le_of_ble_eq_true rfl) dX8_demand_12 (fun H locs hP hS => ?_)
  refine lv_if_ne (tgt := 20) hx hb dX8_demand_15 (by decide) (fun c2 => ?_) (fun c2 => ?_)
  · rw [if_neg c2] at hf
    refine lv_aload_n hx hb dX8_demand_20 rfl (lv_at hl 0 rfl) ?_
    refine mg_0_14 hC hP tw_733 dX8_demand_21 ?_
    refine lv_iload_n hx hb dX8_demand_24 rfl (lv_at hl 1 rfl) ?_
    refine lv_iload_n hx hb dX8_demand_25 rfl (lv_at hl 2 rfl) ?_
    obtain ⟨g3, hf⟩ := grd_some hf
    refine ms_7 hC hP hS g3 dX8_demand_26 (fun H locs hP hS => ?_)
    obtain ⟨σ4, eσ4, hf⟩ := lt_e hf
    rw [← eσ4] at hP
    refine lv_aload_n hx hb dX8_demand_27 rfl (lv_at hl 0 rfl) ?_
    refine lv_iconst (v := 0) hx hb dX8_demand_28 (by decide) ?_
    refine mp_0_18 hC hP hS (by first | exact Or.inl rfl | exact Or.inr rfl) tw_737 dX8_demand_29 (fun H locs hP hS => ?_)
    obtain ⟨σ5, eσ5, hf⟩ := lt_e hf
    rw [← eσ5] at hP
    refine lv_iconst (v := 1) hx hb dX8_demand_32 (by decide) ?_
    obtain ⟨h1, h2⟩ := ret2 hf
    exact retZ hx hb hr hlocks hP hS (Or.inr rfl) h1 h2 dX8_demand_33
  rw [if_pos c2] at hf
  refine lv_iconst (v := 0) hx hb dX8_demand_18 (by decide) ?_
  obtain ⟨h1, h2⟩ := ret2 hf
  exact retZ hx hb hr hlocks hP hS (Or.inl rfl) h1 h2 dX8_demand_19
theorem dX8_reds_0 : decode cX8_reds 0 = .ok (.iload_n 1, 1) := by decide +kernel
theorem dX8_reds_1 : decode cX8_reds 1 = .ok (.iconst 0, 1) := by decide +kernel
theorem dX8_reds_2 : decode cX8_reds 2 = .ok (.bipush 14, 2) := by decide +kernel
theorem dX8_reds_4 : decode cX8_reds 4 = .ok (.invokestatic 100, 3) := by decide +kernel
theorem dX8_reds_7 : decode cX8_reds 7 = .ok (.ifCond .eq 13, 3) := by decide +kernel
theorem dX8_reds_10 : decode cX8_reds 10 = .ok (.iload_n 2, 1) := by decide +kernel
theorem dX8_reds_11 : decode cX8_reds 11 = .ok (.iload_n 1, 1) := by decide +kernel
theorem dX8_reds_12 : decode cX8_reds 12 = .ok (.bipush 14, 2) := by decide +kernel
theorem dX8_reds_14 : decode cX8_reds 14 = .ok (.invokestatic 100, 3) := by decide +kernel
theorem dX8_reds_17 : decode cX8_reds 17 = .ok (.ifCond .ne 5, 3) := by decide +kernel
theorem dX8_reds_20 : decode cX8_reds 20 = .ok (.iconst 0, 1) := by decide +kernel
theorem dX8_reds_21 : decode cX8_reds 21 = .ok (.ireturn, 1) := by decide +kernel
theorem dX8_reds_22 : decode cX8_reds 22 = .ok (.aload_n 0, 1) := by decide +kernel
theorem dX8_reds_23 : decode cX8_reds 23 = .ok (.iload_n 1, 1) := by decide +kernel
theorem dX8_reds_24 : decode cX8_reds 24 = .ok (.putfield 93, 3) := by decide +kernel
theorem dX8_reds_27 : decode cX8_reds 27 = .ok (.aload_n 0, 1) := by decide +kernel
theorem dX8_reds_28 : decode cX8_reds 28 = .ok (.iload_n 2, 1) := by decide +kernel
theorem dX8_reds_29 : decode cX8_reds 29 = .ok (.putfield 19, 3) := by decide +kernel
theorem dX8_reds_32 : decode cX8_reds 32 = .ok (.aload_n 0, 1) := by decide +kernel
theorem dX8_reds_33 : decode cX8_reds 33 = .ok (.iconst 0, 1) := by decide +kernel
theorem dX8_reds_34 : decode cX8_reds 34 = .ok (.putfield 96, 3) := by decide +kernel
theorem dX8_reds_37 : decode cX8_reds 37 = .ok (.iconst 1, 1) := by decide +kernel
theorem dX8_reds_38 : decode cX8_reds 38 = .ok (.ireturn, 1) := by decide +kernel
def M_reds (x1 : Int32) (x2 : Int32) (σ0 : St) : (Int32 × St) := if (M_lies x1 0 14) = 0 then (0, σ0) else if (M_lies x2 x1 14) = 0 then (0, σ0) else lt (si σ0 5 x1) (fun σ3 => lt (si σ3 6 x2) (fun σ4 => lt (si σ4 8 0) (fun σ5 => (1, σ5))))
abbrev rm_M_reds : Room := { frames := 1, cells := 0, slots := 0, locals := 22 }
set_option maxHeartbeats 4000000 in
set_option maxRecDepth 100000 in
theorem k_M_reds (l : Launch) (ad : Nat → Nat) (cI cJ cZ : ClassId) {x1 : Int32} {x2 : Int32} {σ0 : St} {r : Int32} {τ : St} (hf : M_reds x1 x2 σ0 = (r, τ)) : CtI l yX8_reds (gws (.code yX8_reds cX8_reds 3 (some .boolean))) (rm_M_reds) (ty3 cI cJ cZ) (mw ad cI cZ) [.ref (ad 0), .int x1, .int x2] σ0 r τ := by
  refine CtI.of (by decide) (mw_ok ad cI cZ) (Nat.le_of_ble_eq_true rfl) ?_
  generalize hav : ([.ref (ad 0), .int x1, .int x2] : List Value) = av
  intro p e s m below meth c D A hC ls hl hP hS
  obtain ⟨hx, hb, hr, hlocks, hml, hown, hts, hK, hN, hD, hA⟩ := id hC
  rw [← hav] at hl
  have hl : lv_has ls 3 [(0, .ref (ad 0)), (1, .int x1), (2, .int x2)] := hl
  unfold M_reds at hf
  obtain ⟨H, hH⟩ : ∃ z, z = s.heap := ⟨_, rfl⟩
  obtain ⟨locs, hlocs⟩ : ∃ z : List Loc, z = [] := ⟨_, rfl⟩
  rw [← hH] at hP
  have hS : va_S A s.heap H locs := by rw [hH, hlocs]; exact va_S.rf
  suffices hgoal : W p l e _ s m _ below meth c H locs 0 0 _ _ by rw [hH, hlocs] at hgoal; exact hgoal
  refine lv_iload_n hx hb dX8_reds_0 rfl (lv_at hl 1 rfl) ?_
  refine lv_iconst (v := 0) hx hb dX8_reds_1 (by decide) ?_
  refine lv_bipush (v := 14) hx hb dX8_reds_2 (by decide) ?_
  refine cSi (As := [.int x1, .int 0, .int 14]) (rest := []) hC (k_M_lies l (mw ad cI cZ) (mw_ok ad cI cZ) (ty3 cI cJ cZ) _ rfl) yy_X8_lies tw_815 rfl rfl ⟨by decide, by decide⟩ hP hS rfl hl.1 rfl (Nat.le_of_ble_eq_true rfl) dX8_reds_4 (fun H locs hP hS => ?_)
  refine lv_if_eq (tgt := 20) hx hb dX8_reds_7 (by decide) (fun c1 => ?_) (fun c1 => ?_)
  · rw [if_pos c1] at hf
    refine lv_iconst (v := 0) hx hb dX8_reds_20 (by decide) ?_
    obtain ⟨h1, h2⟩ := ret2t hf
    exact retZ hx hb hr hlocks hP hS (Or.inl rfl) h1 h2 dX8_reds_21
  rw [if_neg c1] at hf
  refine lv_iload_n hx hb dX8_reds_10 rfl (lv_at hl 2 rfl) ?_
  refine lv_iload_n hx hb dX8_reds_11 rfl (lv_at hl 1 rfl) ?_
  refine lv_bipush (v := 14) hx hb dX8_reds_12 (by decide) ?_
  refine cSi (As := [.int x2, .int x1, .int 14]) (rest := []) hC (k_M_lies l (mw ad cI cZ) (mw_ok ad cI cZ) (ty3 cI cJ cZ) _ rfl) yy_X8_lies tw_815 rfl rfl ⟨by decide, by decide⟩ hP hS rfl hl.1 rfl (Nat.le_of_ble_eq_true rfl) dX8_reds_14 (fun H locs hP hS => ?_)
  refine lv_if_ne (tgt := 22) hx hb dX8_reds_17 (by decide) (fun c2 => ?_) (fun c2 => ?_)
  · rw [if_neg c2] at hf
    refine lv_aload_n hx hb dX8_reds_22 rfl (lv_at hl 0 rfl) ?_
    refine lv_iload_n hx hb dX8_reds_23 rfl (lv_at hl 1 rfl) ?_
    refine mp_0_5 hC hP hS tw_724 dX8_reds_24 (fun H locs hP hS => ?_)
    obtain ⟨σ3, eσ3, hf⟩ := lt_e hf
    rw [← eσ3] at hP
    refine lv_aload_n hx hb dX8_reds_27 rfl (lv_at hl 0 rfl) ?_
    refine lv_iload_n hx hb dX8_reds_28 rfl (lv_at hl 2 rfl) ?_
    refine mp_0_6 hC hP hS tw_725 dX8_reds_29 (fun H locs hP hS => ?_)
    obtain ⟨σ4, eσ4, hf⟩ := lt_e hf
    rw [← eσ4] at hP
    refine lv_aload_n hx hb dX8_reds_32 rfl (lv_at hl 0 rfl) ?_
    refine lv_iconst (v := 0) hx hb dX8_reds_33 (by decide) ?_
    refine mp_0_18 hC hP hS (by first | exact Or.inl rfl | exact Or.inr rfl) tw_737 dX8_reds_34 (fun H locs hP hS => ?_)
    obtain ⟨σ5, eσ5, hf⟩ := lt_e hf
    rw [← eσ5] at hP
    refine lv_iconst (v := 1) hx hb dX8_reds_37 (by decide) ?_
    obtain ⟨h1, h2⟩ := ret2t hf
    exact retZ hx hb hr hlocks hP hS (Or.inr rfl) h1 h2 dX8_reds_38
  rw [if_pos c2] at hf
  refine lv_iconst (v := 0) hx hb dX8_reds_20 (by decide) ?_
  obtain ⟨h1, h2⟩ := ret2t hf
  exact retZ hx hb hr hlocks hP hS (Or.inl rfl) h1 h2 dX8_reds_21
theorem dX8_way_0 : decode cX8_way 0 = .ok (.iload_n 1, 1) := by decide +kernel
theorem dX8_way_1 : decode cX8_way 1 = .ok (.iconst 0, 1) := by decide +kernel
theorem dX8_way_2 : decode cX8_way 2 = .ok (.sipush 9999, 3) := by decide +kernel
theorem dX8_way_5 : decode cX8_way 5 = .ok (.invokestatic 100, 3) := by decide +kernel
theorem dX8_way_8 : decode cX8_way 8 = .ok (.ifCond .ne 5, 3) := by decide +kernel
theorem dX8_way_11 : decode cX8_way 11 = .ok (.iconst 0, 1) := by decide +kernel
theorem dX8_way_12 : decode cX8_way 12 = .ok (.ireturn, 1) := by decide +kernel
theorem dX8_way_13 : decode cX8_way 13 = .ok (.aload_n 0, 1) := by decide +kernel
theorem dX8_way_14 : decode cX8_way 14 = .ok (.iload_n 1, 1) := by decide +kernel
theorem dX8_way_15 : decode cX8_way 15 = .ok (.putfield 22, 3) := by decide +kernel
theorem dX8_way_18 : decode cX8_way 18 = .ok (.aload_n 0, 1) := by decide +kernel
theorem dX8_way_19 : decode cX8_way 19 = .ok (.iconst 0, 1) := by decide +kernel
theorem dX8_way_20 : decode cX8_way 20 = .ok (.putfield 96, 3) := by decide +kernel
theorem dX8_way_23 : decode cX8_way 23 = .ok (.iconst 1, 1) := by decide +kernel
theorem dX8_way_24 : decode cX8_way 24 = .ok (.ireturn, 1) := by decide +kernel
def M_way (x1 : Int32) (σ0 : St) : (Int32 × St) := if (M_lies x1 0 9999) = 0 then (0, σ0) else lt (si σ0 7 x1) (fun σ2 => lt (si σ2 8 0) (fun σ3 => (1, σ3)))
abbrev rm_M_way : Room := { frames := 1, cells := 0, slots := 0, locals := 22 }
set_option maxHeartbeats 4000000 in
set_option maxRecDepth 100000 in
theorem k_M_way (l : Launch) (ad : Nat → Nat) (cI cJ cZ : ClassId) {x1 : Int32} {σ0 : St} {r : Int32} {τ : St} (hf : M_way x1 σ0 = (r, τ)) : CtI l yX8_way (gws (.code yX8_way cX8_way 2 (some .boolean))) (rm_M_way) (ty3 cI cJ cZ) (mw ad cI cZ) [.ref (ad 0), .int x1] σ0 r τ := by
  refine CtI.of (by decide) (mw_ok ad cI cZ) (Nat.le_of_ble_eq_true rfl) ?_
  generalize hav : ([.ref (ad 0), .int x1] : List Value) = av
  intro p e s m below meth c D A hC ls hl hP hS
  obtain ⟨hx, hb, hr, hlocks, hml, hown, hts, hK, hN, hD, hA⟩ := id hC
  rw [← hav] at hl
  have hl : lv_has ls 2 [(0, .ref (ad 0)), (1, .int x1)] := hl
  unfold M_way at hf
  obtain ⟨H, hH⟩ : ∃ z, z = s.heap := ⟨_, rfl⟩
  obtain ⟨locs, hlocs⟩ : ∃ z : List Loc, z = [] := ⟨_, rfl⟩
  rw [← hH] at hP
  have hS : va_S A s.heap H locs := by rw [hH, hlocs]; exact va_S.rf
  suffices hgoal : W p l e _ s m _ below meth c H locs 0 0 _ _ by rw [hH, hlocs] at hgoal; exact hgoal
  refine lv_iload_n hx hb dX8_way_0 rfl (lv_at hl 1 rfl) ?_
  refine lv_iconst (v := 0) hx hb dX8_way_1 (by decide) ?_
  refine lv_sipush (v := 9999) hx hb dX8_way_2 (by decide) ?_
  refine cSi (As := [.int x1, .int 0, .int 9999]) (rest := []) hC (k_M_lies l (mw ad cI cZ) (mw_ok ad cI cZ) (ty3 cI cJ cZ) _ rfl) yy_X8_lies tw_815 rfl rfl ⟨by decide, by decide⟩ hP hS rfl hl.1 rfl (Nat.le_of_ble_eq_true rfl) dX8_way_5 (fun H locs hP hS => ?_)
  refine lv_if_ne (tgt := 13) hx hb dX8_way_8 (by decide) (fun c1 => ?_) (fun c1 => ?_)
  · rw [if_neg c1] at hf
    refine lv_aload_n hx hb dX8_way_13 rfl (lv_at hl 0 rfl) ?_
    refine lv_iload_n hx hb dX8_way_14 rfl (lv_at hl 1 rfl) ?_
    refine mp_0_7 hC hP hS tw_726 dX8_way_15 (fun H locs hP hS => ?_)
    obtain ⟨σ2, eσ2, hf⟩ := lt_e hf
    rw [← eσ2] at hP
    refine lv_aload_n hx hb dX8_way_18 rfl (lv_at hl 0 rfl) ?_
    refine lv_iconst (v := 0) hx hb dX8_way_19 (by decide) ?_
    refine mp_0_18 hC hP hS (by first | exact Or.inl rfl | exact Or.inr rfl) tw_737 dX8_way_20 (fun H locs hP hS => ?_)
    obtain ⟨σ3, eσ3, hf⟩ := lt_e hf
    rw [← eσ3] at hP
    refine lv_iconst (v := 1) hx hb dX8_way_23 (by decide) ?_
    obtain ⟨h1, h2⟩ := ret2t hf
    exact retZ hx hb hr hlocks hP hS (Or.inr rfl) h1 h2 dX8_way_24
  rw [if_pos c1] at hf
  refine lv_iconst (v := 0) hx hb dX8_way_11 (by decide) ?_
  obtain ⟨h1, h2⟩ := ret2t hf
  exact retZ hx hb hr hlocks hP hS (Or.inl rfl) h1 h2 dX8_way_12
theorem dX8_goes_0 : decode cX8_goes 0 = .ok (.aload_n 0, 1) := by decide +kernel
theorem dX8_goes_1 : decode cX8_goes 1 = .ok (.getfield 48, 3) := by decide +kernel
theorem dX8_goes_4 : decode cX8_goes 4 = .ok (.iload_n 2, 1) := by decide +kernel
theorem dX8_goes_5 : decode cX8_goes 5 = .ok (.iaload, 1) := by decide +kernel
theorem dX8_goes_6 : decode cX8_goes 6 = .ok (.iload 4, 2) := by decide +kernel
theorem dX8_goes_8 : decode cX8_goes 8 = .ok (.iconst 1, 1) := by decide +kernel
theorem dX8_goes_9 : decode cX8_goes 9 = .ok (.isub, 1) := by decide +kernel
theorem dX8_goes_10 : decode cX8_goes 10 = .ok (.if_icmp .ne 13, 3) := by decide +kernel
theorem dX8_goes_13 : decode cX8_goes 13 = .ok (.aload_n 0, 1) := by decide +kernel
theorem dX8_goes_14 : decode cX8_goes 14 = .ok (.getfield 48, 3) := by decide +kernel
theorem dX8_goes_17 : decode cX8_goes 17 = .ok (.iload_n 3, 1) := by decide +kernel
theorem dX8_goes_18 : decode cX8_goes 18 = .ok (.iaload, 1) := by decide +kernel
theorem dX8_goes_19 : decode cX8_goes 19 = .ok (.iconst (-1), 1) := by decide +kernel
theorem dX8_goes_20 : decode cX8_goes 20 = .ok (.if_icmp .eq 5, 3) := by decide +kernel
theorem dX8_goes_23 : decode cX8_goes 23 = .ok (.iconst 0, 1) := by decide +kernel
theorem dX8_goes_24 : decode cX8_goes 24 = .ok (.ireturn, 1) := by decide +kernel
theorem dX8_goes_25 : decode cX8_goes 25 = .ok (.aload_n 0, 1) := by decide +kernel
theorem dX8_goes_26 : decode cX8_goes 26 = .ok (.getfield 48, 3) := by decide +kernel
theorem dX8_goes_29 : decode cX8_goes 29 = .ok (.iload_n 3, 1) := by decide +kernel
theorem dX8_goes_30 : decode cX8_goes 30 = .ok (.iload 4, 2) := by decide +kernel
theorem dX8_goes_32 : decode cX8_goes 32 = .ok (.iastore, 1) := by decide +kernel
theorem dX8_goes_33 : decode cX8_goes 33 = .ok (.aload_n 0, 1) := by decide +kernel
theorem dX8_goes_34 : decode cX8_goes 34 = .ok (.getfield 51, 3) := by decide +kernel
theorem dX8_goes_37 : decode cX8_goes 37 = .ok (.iload_n 3, 1) := by decide +kernel
theorem dX8_goes_38 : decode cX8_goes 38 = .ok (.aload_n 0, 1) := by decide +kernel
theorem dX8_goes_39 : decode cX8_goes 39 = .ok (.getfield 51, 3) := by decide +kernel
theorem dX8_goes_42 : decode cX8_goes 42 = .ok (.iload_n 2, 1) := by decide +kernel
theorem dX8_goes_43 : decode cX8_goes 43 = .ok (.iaload, 1) := by decide +kernel
theorem dX8_goes_44 : decode cX8_goes 44 = .ok (.aload_n 0, 1) := by decide +kernel
theorem dX8_goes_45 : decode cX8_goes 45 = .ok (.getfield 32, 3) := by decide +kernel
theorem dX8_goes_48 : decode cX8_goes 48 = .ok (.iload_n 1, 1) := by decide +kernel
theorem dX8_goes_49 : decode cX8_goes 49 = .ok (.iaload, 1) := by decide +kernel
theorem dX8_goes_50 : decode cX8_goes 50 = .ok (.iadd, 1) := by decide +kernel
theorem dX8_goes_51 : decode cX8_goes 51 = .ok (.iastore, 1) := by decide +kernel
theorem dX8_goes_52 : decode cX8_goes 52 = .ok (.aload_n 0, 1) := by decide +kernel
theorem dX8_goes_53 : decode cX8_goes 53 = .ok (.getfield 54, 3) := by decide +kernel
theorem dX8_goes_56 : decode cX8_goes 56 = .ok (.iload_n 3, 1) := by decide +kernel
theorem dX8_goes_57 : decode cX8_goes 57 = .ok (.iload_n 2, 1) := by decide +kernel
theorem dX8_goes_58 : decode cX8_goes 58 = .ok (.aload_n 0, 1) := by decide +kernel
theorem dX8_goes_59 : decode cX8_goes 59 = .ok (.getfield 90, 3) := by decide +kernel
theorem dX8_goes_62 : decode cX8_goes 62 = .ok (.if_icmp .ne 7, 3) := by decide +kernel
theorem dX8_goes_65 : decode cX8_goes 65 = .ok (.iload_n 1, 1) := by decide +kernel
theorem dX8_goes_66 : decode cX8_goes 66 = .ok (.goto 9, 3) := by decide +kernel
theorem dX8_goes_69 : decode cX8_goes 69 = .ok (.aload_n 0, 1) := by decide +kernel
theorem dX8_goes_70 : decode cX8_goes 70 = .ok (.getfield 54, 3) := by decide +kernel
theorem dX8_goes_73 : decode cX8_goes 73 = .ok (.iload_n 2, 1) := by decide +kernel
theorem dX8_goes_74 : decode cX8_goes 74 = .ok (.iaload, 1) := by decide +kernel
theorem dX8_goes_75 : decode cX8_goes 75 = .ok (.iastore, 1) := by decide +kernel
theorem dX8_goes_76 : decode cX8_goes 76 = .ok (.iconst 1, 1) := by decide +kernel
theorem dX8_goes_77 : decode cX8_goes 77 = .ok (.ireturn, 1) := by decide +kernel
def M_goes (N : Nat) (x1 : Int32) (x2 : Int32) (x3 : Int32) (x4 : Int32) (σ0 : St) : Option (Int32 × St) := grd (inb x2 8) (if (σ0.2.1 7 (x2).toNatClampNeg) = (x4 - 1) then grd (inb x3 8) (if (σ0.2.1 7 (x3).toNatClampNeg) = (-1) then grd (inb x3 8) (lt (sa σ0 7 (x3).toNatClampNeg x4) (fun σ6 => grd (inb x2 8) (grd (inb x1 14) (grd (inb x3 8) (lt (sa σ6 8 (x3).toNatClampNeg ((σ6.2.1 8 (x2).toNatClampNeg) + (σ6.2.1 2 (x1).toNatClampNeg))) (fun σ10 => if x2 = (σ10.1 2) then grd (inb x3 8) (lt (sa σ10 9 (x3).toNatClampNeg x1) (fun σ16 => some (1, σ16))) else grd (inb x2 8) (grd (inb x3 8) (lt (sa σ10 9 (x3).toNatClampNeg (σ10.2.1 9 (x2).toNatClampNeg)) (fun σ14 => some (1, σ14)))))))))) else some (0, σ0)) else some (0, σ0))
abbrev rm_M_goes : Room := { frames := 0, cells := 0, slots := 0, locals := 0 }
set_option maxHeartbeats 4000000 in
set_option maxRecDepth 100000 in
theorem k_M_goes (l : Launch) (ad : Nat → Nat) (cI cJ cZ : ClassId) {N : Nat} {x1 : Int32} {x2 : Int32} {x3 : Int32} {x4 : Int32} {σ0 : St} {r : Int32} {τ : St} (hf : M_goes N x1 x2 x3 x4 σ0 = some (r, τ)) : CtI l yX8_goes (gws (.code yX8_goes cX8_goes 5 (some .int))) (rm_M_goes) (ty3 cI cJ cZ) (mw ad cI cZ) [.ref (ad 0), .int x1, .int x2, .int x3, .int x4] σ0 r τ := by
  refine CtI.of (by decide) (mw_ok ad cI cZ) (Nat.le_of_ble_eq_true rfl) ?_
  generalize hav : ([.ref (ad 0), .int x1, .int x2, .int x3, .int x4] : List Value) = av
  intro p e s m below meth c D A hC ls hl hP hS
  obtain ⟨hx, hb, hr, hlocks, hml, hown, hts, hK, hN, hD, hA⟩ := id hC
  rw [← hav] at hl
  have hl : lv_has ls 5 [(0, .ref (ad 0)), (1, .int x1), (2, .int x2), (3, .int x3), (4, .int x4)] := hl
  unfold M_goes at hf
  obtain ⟨H, hH⟩ : ∃ z, z = s.heap := ⟨_, rfl⟩
  obtain ⟨locs, hlocs⟩ : ∃ z : List Loc, z = [] := ⟨_, rfl⟩
  rw [← hH] at hP
  have hS : va_S A s.heap H locs := by rw [hH, hlocs]; exact va_S.rf
  suffices hgoal : W p l e _ s m _ below meth c H locs 0 0 _ _ by rw [hH, hlocs] at hgoal; exact hgoal
  refine lv_aload_n hx hb dX8_goes_0 rfl (lv_at hl 0 rfl) ?_
  refine mg_0_15 hC hP tw_734 dX8_goes_1 ?_
  refine lv_iload_n hx hb dX8_goes_4 rfl (lv_at hl 2 rfl) ?_
  obtain ⟨g1, hf⟩ := grd_some hf
  refine ml_8 hC hP g1 dX8_goes_5 ?_
  refine lv_iload hx hb dX8_goes_6 (lv_at hl 4 rfl) ?_
  refine lv_iconst (v := 1) hx hb dX8_goes_8 (by decide) ?_
  refine lv_isub hx hb dX8_goes_9 ?_
  refine lv_icmp_ne (tgt := 23) hx hb dX8_goes_10 (by decide) (fun c2 => ?_) (fun c2 => ?_)
  · rw [if_neg c2] at hf
    refine lv_iconst (v := 0) hx hb dX8_goes_23 (by decide) ?_
    obtain ⟨h1, h2⟩ := ret2 hf
    exact retI hx hb hr hlocks hP hS h1 h2 dX8_goes_24
  rw [if_pos c2] at hf
  refine lv_aload_n hx hb dX8_goes_13 rfl (lv_at hl 0 rfl) ?_
  refine mg_0_15 hC hP tw_734 dX8_goes_14 ?_
  refine lv_iload_n hx hb dX8_goes_17 rfl (lv_at hl 3 rfl) ?_
  obtain ⟨g3, hf⟩ := grd_some hf
  refine ml_8 hC hP g3 dX8_goes_18 ?_
  refine lv_iconst (v := (-1)) hx hb dX8_goes_19 (by decide) ?_
  refine lv_icmp_eq (tgt := 25) hx hb dX8_goes_20 (by decide) (fun c4 => ?_) (fun c4 => ?_)
  · rw [if_pos c4] at hf
    refine lv_aload_n hx hb dX8_goes_25 rfl (lv_at hl 0 rfl) ?_
    refine mg_0_15 hC hP tw_734 dX8_goes_26 ?_
    refine lv_iload_n hx hb dX8_goes_29 rfl (lv_at hl 3 rfl) ?_
    refine lv_iload hx hb dX8_goes_30 (lv_at hl 4 rfl) ?_
    obtain ⟨g5, hf⟩ := grd_some hf
    refine ms_8 hC hP hS g5 dX8_goes_32 (fun H locs hP hS => ?_)
    obtain ⟨σ6, eσ6, hf⟩ := lt_e hf
    rw [← eσ6] at hP
    refine lv_aload_n hx hb dX8_goes_33 rfl (lv_at hl 0 rfl) ?_
    refine mg_0_16 hC hP tw_735 dX8_goes_34 ?_
    refine lv_iload_n hx hb dX8_goes_37 rfl (lv_at hl 3 rfl) ?_
    refine lv_aload_n hx hb dX8_goes_38 rfl (lv_at hl 0 rfl) ?_
    refine mg_0_16 hC hP tw_735 dX8_goes_39 ?_
    refine lv_iload_n hx hb dX8_goes_42 rfl (lv_at hl 2 rfl) ?_
    obtain ⟨g7, hf⟩ := grd_some hf
    refine ml_9 hC hP g7 dX8_goes_43 ?_
    refine lv_aload_n hx hb dX8_goes_44 rfl (lv_at hl 0 rfl) ?_
    refine mg_0_10 hC hP tw_729 dX8_goes_45 ?_
    refine lv_iload_n hx hb dX8_goes_48 rfl (lv_at hl 1 rfl) ?_
    obtain ⟨g8, hf⟩ := grd_some hf
    refine ml_3 hC hP g8 dX8_goes_49 ?_
    refine lv_iadd hx hb dX8_goes_50 ?_
    obtain ⟨g9, hf⟩ := grd_some hf
    refine ms_9 hC hP hS g9 dX8_goes_51 (fun H locs hP hS => ?_)
    obtain ⟨σ10, eσ10, hf⟩ := lt_e hf
    rw [← eσ10] at hP
    refine lv_aload_n hx hb dX8_goes_52 rfl (lv_at hl 0 rfl) ?_
    refine mg_0_17 hC hP tw_736 dX8_goes_53 ?_
    refine lv_iload_n hx hb dX8_goes_56 rfl (lv_at hl 3 rfl) ?_
    refine lv_iload_n hx hb dX8_goes_57 rfl (lv_at hl 2 rfl) ?_
    refine lv_aload_n hx hb dX8_goes_58 rfl (lv_at hl 0 rfl) ?_
    refine mg_0_2 hC hP tw_721 dX8_goes_59 ?_
    refine lv_icmp_ne (tgt := 69) hx hb dX8_goes_62 (by decide) (fun c11 => ?_) (fun c11 => ?_)
    · rw [if_neg c11] at hf
      refine lv_aload_n hx hb dX8_goes_69 rfl (lv_at hl 0 rfl) ?_
      refine mg_0_17 hC hP tw_736 dX8_goes_70 ?_
      refine lv_iload_n hx hb dX8_goes_73 rfl (lv_at hl 2 rfl) ?_
      obtain ⟨g12, hf⟩ := grd_some hf
      refine ml_10 hC hP g12 dX8_goes_74 ?_
      obtain ⟨g13, hf⟩ := grd_some hf
      refine ms_10 hC hP hS g13 dX8_goes_75 (fun H locs hP hS => ?_)
      obtain ⟨σ14, eσ14, hf⟩ := lt_e hf
      rw [← eσ14] at hP
      refine lv_iconst (v := 1) hx hb dX8_goes_76 (by decide) ?_
      obtain ⟨h1, h2⟩ := ret2 hf
      exact retI hx hb hr hlocks hP hS h1 h2 dX8_goes_77
    rw [if_pos c11] at hf
    refine lv_iload_n hx hb dX8_goes_65 rfl (lv_at hl 1 rfl) ?_
    refine lv_goto (tgt := 75) hx hb dX8_goes_66 (by decide) ?_
    obtain ⟨g15, hf⟩ := grd_some hf
    refine ms_10 hC hP hS g15 dX8_goes_75 (fun H locs hP hS => ?_)
    obtain ⟨σ16, eσ16, hf⟩ := lt_e hf
    rw [← eσ16] at hP
    refine lv_iconst (v := 1) hx hb dX8_goes_76 (by decide) ?_
    obtain ⟨h1, h2⟩ := ret2 hf
    exact retI hx hb hr hlocks hP hS h1 h2 dX8_goes_77
  rw [if_neg c4] at hf
  refine lv_iconst (v := 0) hx hb dX8_goes_23 (by decide) ?_
  obtain ⟨h1, h2⟩ := ret2 hf
  exact retI hx hb hr hlocks hP hS h1 h2 dX8_goes_24
theorem dX8_isTree_0 : decode cX8_isTree 0 = .ok (.iload_n 1, 1) := by decide +kernel
theorem dX8_isTree_1 : decode cX8_isTree 1 = .ok (.invokestatic 111, 3) := by decide +kernel
theorem dX8_isTree_4 : decode cX8_isTree 4 = .ok (.aload_n 0, 1) := by decide +kernel
theorem dX8_isTree_5 : decode cX8_isTree 5 = .ok (.getfield 7, 3) := by decide +kernel
theorem dX8_isTree_8 : decode cX8_isTree 8 = .ok (.iconst 1, 1) := by decide +kernel
theorem dX8_isTree_9 : decode cX8_isTree 9 = .ok (.isub, 1) := by decide +kernel
theorem dX8_isTree_10 : decode cX8_isTree 10 = .ok (.if_icmp .eq 5, 3) := by decide +kernel
theorem dX8_isTree_13 : decode cX8_isTree 13 = .ok (.iconst 0, 1) := by decide +kernel
theorem dX8_isTree_14 : decode cX8_isTree 14 = .ok (.ireturn, 1) := by decide +kernel
theorem dX8_isTree_15 : decode cX8_isTree 15 = .ok (.iconst 0, 1) := by decide +kernel
theorem dX8_isTree_16 : decode cX8_isTree 16 = .ok (.istore_n 2, 1) := by decide +kernel
theorem dX8_isTree_17 : decode cX8_isTree 17 = .ok (.iload_n 2, 1) := by decide +kernel
theorem dX8_isTree_18 : decode cX8_isTree 18 = .ok (.aload_n 0, 1) := by decide +kernel
theorem dX8_isTree_19 : decode cX8_isTree 19 = .ok (.getfield 87, 3) := by decide +kernel
theorem dX8_isTree_22 : decode cX8_isTree 22 = .ok (.if_icmp .ge 28, 3) := by decide +kernel
theorem dX8_isTree_25 : decode cX8_isTree 25 = .ok (.iload_n 1, 1) := by decide +kernel
theorem dX8_isTree_26 : decode cX8_isTree 26 = .ok (.iload_n 2, 1) := by decide +kernel
theorem dX8_isTree_27 : decode cX8_isTree 27 = .ok (.invokestatic 115, 3) := by decide +kernel
theorem dX8_isTree_30 : decode cX8_isTree 30 = .ok (.ifCond .eq 14, 3) := by decide +kernel
theorem dX8_isTree_33 : decode cX8_isTree 33 = .ok (.aload_n 0, 1) := by decide +kernel
theorem dX8_isTree_34 : decode cX8_isTree 34 = .ok (.getfield 38, 3) := by decide +kernel
theorem dX8_isTree_37 : decode cX8_isTree 37 = .ok (.iload_n 2, 1) := by decide +kernel
theorem dX8_isTree_38 : decode cX8_isTree 38 = .ok (.baload, 1) := by decide +kernel
theorem dX8_isTree_39 : decode cX8_isTree 39 = .ok (.ifCond .eq 5, 3) := by decide +kernel
theorem dX8_isTree_42 : decode cX8_isTree 42 = .ok (.iconst 0, 1) := by decide +kernel
theorem dX8_isTree_43 : decode cX8_isTree 43 = .ok (.ireturn, 1) := by decide +kernel
theorem dX8_isTree_44 : decode cX8_isTree 44 = .ok (.iinc 2 1, 3) := by decide +kernel
theorem dX8_isTree_47 : decode cX8_isTree 47 = .ok (.goto (-30), 3) := by decide +kernel
theorem dX8_isTree_50 : decode cX8_isTree 50 = .ok (.iconst 0, 1) := by decide +kernel
theorem dX8_isTree_51 : decode cX8_isTree 51 = .ok (.istore_n 2, 1) := by decide +kernel
theorem dX8_isTree_52 : decode cX8_isTree 52 = .ok (.iload_n 2, 1) := by decide +kernel
theorem dX8_isTree_53 : decode cX8_isTree 53 = .ok (.aload_n 0, 1) := by decide +kernel
theorem dX8_isTree_54 : decode cX8_isTree 54 = .ok (.getfield 7, 3) := by decide +kernel
theorem dX8_isTree_57 : decode cX8_isTree 57 = .ok (.if_icmp .ge 16, 3) := by decide +kernel
theorem dX8_isTree_60 : decode cX8_isTree 60 = .ok (.aload_n 0, 1) := by decide +kernel
theorem dX8_isTree_61 : decode cX8_isTree 61 = .ok (.getfield 48, 3) := by decide +kernel
theorem dX8_isTree_64 : decode cX8_isTree 64 = .ok (.iload_n 2, 1) := by decide +kernel
theorem dX8_isTree_65 : decode cX8_isTree 65 = .ok (.iconst (-1), 1) := by decide +kernel
theorem dX8_isTree_66 : decode cX8_isTree 66 = .ok (.iastore, 1) := by decide +kernel
theorem dX8_isTree_67 : decode cX8_isTree 67 = .ok (.iinc 2 1, 3) := by decide +kernel
theorem dX8_isTree_70 : decode cX8_isTree 70 = .ok (.goto (-18), 3) := by decide +kernel
theorem dX8_isTree_73 : decode cX8_isTree 73 = .ok (.aload_n 0, 1) := by decide +kernel
theorem dX8_isTree_74 : decode cX8_isTree 74 = .ok (.getfield 48, 3) := by decide +kernel
theorem dX8_isTree_77 : decode cX8_isTree 77 = .ok (.aload_n 0, 1) := by decide +kernel
theorem dX8_isTree_78 : decode cX8_isTree 78 = .ok (.getfield 90, 3) := by decide +kernel
theorem dX8_isTree_81 : decode cX8_isTree 81 = .ok (.iconst 0, 1) := by decide +kernel
theorem dX8_isTree_82 : decode cX8_isTree 82 = .ok (.iastore, 1) := by decide +kernel
theorem dX8_isTree_83 : decode cX8_isTree 83 = .ok (.aload_n 0, 1) := by decide +kernel
theorem dX8_isTree_84 : decode cX8_isTree 84 = .ok (.getfield 51, 3) := by decide +kernel
theorem dX8_isTree_87 : decode cX8_isTree 87 = .ok (.aload_n 0, 1) := by decide +kernel
theorem dX8_isTree_88 : decode cX8_isTree 88 = .ok (.getfield 90, 3) := by decide +kernel
theorem dX8_isTree_91 : decode cX8_isTree 91 = .ok (.iconst 0, 1) := by decide +kernel
theorem dX8_isTree_92 : decode cX8_isTree 92 = .ok (.iastore, 1) := by decide +kernel
theorem dX8_isTree_93 : decode cX8_isTree 93 = .ok (.aload_n 0, 1) := by decide +kernel
theorem dX8_isTree_94 : decode cX8_isTree 94 = .ok (.getfield 54, 3) := by decide +kernel
theorem dX8_isTree_97 : decode cX8_isTree 97 = .ok (.aload_n 0, 1) := by decide +kernel
theorem dX8_isTree_98 : decode cX8_isTree 98 = .ok (.getfield 90, 3) := by decide +kernel
theorem dX8_isTree_101 : decode cX8_isTree 101 = .ok (.iconst (-1), 1) := by decide +kernel
theorem dX8_isTree_102 : decode cX8_isTree 102 = .ok (.iastore, 1) := by decide +kernel
theorem dX8_isTree_103 : decode cX8_isTree 103 = .ok (.iconst 1, 1) := by decide +kernel
theorem dX8_isTree_104 : decode cX8_isTree 104 = .ok (.istore_n 2, 1) := by decide +kernel
theorem dX8_isTree_105 : decode cX8_isTree 105 = .ok (.iconst 1, 1) := by decide +kernel
theorem dX8_isTree_106 : decode cX8_isTree 106 = .ok (.istore_n 3, 1) := by decide +kernel
theorem dX8_isTree_107 : decode cX8_isTree 107 = .ok (.iload_n 3, 1) := by decide +kernel
theorem dX8_isTree_108 : decode cX8_isTree 108 = .ok (.aload_n 0, 1) := by decide +kernel
theorem dX8_isTree_109 : decode cX8_isTree 109 = .ok (.getfield 7, 3) := by decide +kernel
theorem dX8_isTree_112 : decode cX8_isTree 112 = .ok (.if_icmp .ge 85, 3) := by decide +kernel
theorem dX8_isTree_115 : decode cX8_isTree 115 = .ok (.iconst 0, 1) := by decide +kernel
theorem dX8_isTree_116 : decode cX8_isTree 116 = .ok (.istore 4, 2) := by decide +kernel
theorem dX8_isTree_118 : decode cX8_isTree 118 = .ok (.iload 4, 2) := by decide +kernel
theorem dX8_isTree_120 : decode cX8_isTree 120 = .ok (.aload_n 0, 1) := by decide +kernel
theorem dX8_isTree_121 : decode cX8_isTree 121 = .ok (.getfield 87, 3) := by decide +kernel
theorem dX8_isTree_124 : decode cX8_isTree 124 = .ok (.if_icmp .ge 67, 3) := by decide +kernel
theorem dX8_isTree_127 : decode cX8_isTree 127 = .ok (.iload_n 1, 1) := by decide +kernel
theorem dX8_isTree_128 : decode cX8_isTree 128 = .ok (.iload 4, 2) := by decide +kernel
theorem dX8_isTree_130 : decode cX8_isTree 130 = .ok (.invokestatic 115, 3) := by decide +kernel
theorem dX8_isTree_133 : decode cX8_isTree 133 = .ok (.ifCond .ne 6, 3) := by decide +kernel
theorem dX8_isTree_136 : decode cX8_isTree 136 = .ok (.goto 49, 3) := by decide +kernel
theorem dX8_isTree_139 : decode cX8_isTree 139 = .ok (.iload_n 2, 1) := by decide +kernel
theorem dX8_isTree_140 : decode cX8_isTree 140 = .ok (.aload_n 0, 1) := by decide +kernel
theorem dX8_isTree_141 : decode cX8_isTree 141 = .ok (.iload 4, 2) := by decide +kernel
theorem dX8_isTree_143 : decode cX8_isTree 143 = .ok (.aload_n 0, 1) := by decide +kernel
theorem dX8_isTree_144 : decode cX8_isTree 144 = .ok (.getfield 25, 3) := by decide +kernel
theorem dX8_isTree_147 : decode cX8_isTree 147 = .ok (.iload 4, 2) := by decide +kernel
theorem dX8_isTree_149 : decode cX8_isTree 149 = .ok (.iaload, 1) := by decide +kernel
theorem dX8_isTree_150 : decode cX8_isTree 150 = .ok (.aload_n 0, 1) := by decide +kernel
theorem dX8_isTree_151 : decode cX8_isTree 151 = .ok (.getfield 29, 3) := by decide +kernel
theorem dX8_isTree_154 : decode cX8_isTree 154 = .ok (.iload 4, 2) := by decide +kernel
theorem dX8_isTree_156 : decode cX8_isTree 156 = .ok (.iaload, 1) := by decide +kernel
theorem dX8_isTree_157 : decode cX8_isTree 157 = .ok (.iload_n 3, 1) := by decide +kernel
theorem dX8_isTree_158 : decode cX8_isTree 158 = .ok (.invokevirtual 119, 3) := by decide +kernel
theorem dX8_isTree_161 : decode cX8_isTree 161 = .ok (.aload_n 0, 1) := by decide +kernel
theorem dX8_isTree_162 : decode cX8_isTree 162 = .ok (.iload 4, 2) := by decide +kernel
theorem dX8_isTree_164 : decode cX8_isTree 164 = .ok (.aload_n 0, 1) := by decide +kernel
theorem dX8_isTree_165 : decode cX8_isTree 165 = .ok (.getfield 29, 3) := by decide +kernel
theorem dX8_isTree_168 : decode cX8_isTree 168 = .ok (.iload 4, 2) := by decide +kernel
theorem dX8_isTree_170 : decode cX8_isTree 170 = .ok (.iaload, 1) := by decide +kernel
theorem dX8_isTree_171 : decode cX8_isTree 171 = .ok (.aload_n 0, 1) := by decide +kernel
theorem dX8_isTree_172 : decode cX8_isTree 172 = .ok (.getfield 25, 3) := by decide +kernel
theorem dX8_isTree_175 : decode cX8_isTree 175 = .ok (.iload 4, 2) := by decide +kernel
theorem dX8_isTree_177 : decode cX8_isTree 177 = .ok (.iaload, 1) := by decide +kernel
theorem dX8_isTree_178 : decode cX8_isTree 178 = .ok (.iload_n 3, 1) := by decide +kernel
theorem dX8_isTree_179 : decode cX8_isTree 179 = .ok (.invokevirtual 119, 3) := by decide +kernel
theorem dX8_isTree_182 : decode cX8_isTree 182 = .ok (.iadd, 1) := by decide +kernel
theorem dX8_isTree_183 : decode cX8_isTree 183 = .ok (.iadd, 1) := by decide +kernel
theorem dX8_isTree_184 : decode cX8_isTree 184 = .ok (.istore_n 2, 1) := by decide +kernel
theorem dX8_isTree_185 : decode cX8_isTree 185 = .ok (.iinc 4 1, 3) := by decide +kernel
theorem dX8_isTree_188 : decode cX8_isTree 188 = .ok (.goto (-70), 3) := by decide +kernel
theorem dX8_isTree_191 : decode cX8_isTree 191 = .ok (.iinc 3 1, 3) := by decide +kernel
theorem dX8_isTree_194 : decode cX8_isTree 194 = .ok (.goto (-87), 3) := by decide +kernel
theorem dX8_isTree_197 : decode cX8_isTree 197 = .ok (.iload_n 2, 1) := by decide +kernel
theorem dX8_isTree_198 : decode cX8_isTree 198 = .ok (.aload_n 0, 1) := by decide +kernel
theorem dX8_isTree_199 : decode cX8_isTree 199 = .ok (.getfield 7, 3) := by decide +kernel
theorem dX8_isTree_202 : decode cX8_isTree 202 = .ok (.if_icmp .ne 7, 3) := by decide +kernel
theorem dX8_isTree_205 : decode cX8_isTree 205 = .ok (.iconst 1, 1) := by decide +kernel
theorem dX8_isTree_206 : decode cX8_isTree 206 = .ok (.goto 4, 3) := by decide +kernel
theorem dX8_isTree_209 : decode cX8_isTree 209 = .ok (.iconst 0, 1) := by decide +kernel
theorem dX8_isTree_210 : decode cX8_isTree 210 = .ok (.ireturn, 1) := by decide +kernel
def M_isTree_17 (N : Nat) (k_52 : Int32 → Int32 → St → Option (Int32 × St)) : Nat → Int32 → Int32 → St → Option (Int32 × St)
  | 0, _, _, _ => none
  | n + 1, x1, x2, σ => if (σ.1 1) ≤ x2 then k_52 x1 0 σ else if (M_has x1 x2) = 0 then M_isTree_17 N k_52 n x1 (x2 + 1) σ else grd (inb x2 14) (if (σ.2.1 4 (x2).toNatClampNeg) = 0 then M_isTree_17 N k_52 n x1 (x2 + 1) σ else some (0, σ))
theorem M_isTree_17_s (N : Nat) (k_52 : Int32 → Int32 → St → Option (Int32 × St)) (n : Nat) (x1 : Int32) (x2 : Int32) (σ : St) : M_isTree_17 N k_52 (n + 1) x1 x2 σ = if (σ.1 1) ≤ x2 then k_52 x1 0 σ else if (M_has x1 x2) = 0 then M_isTree_17 N k_52 n x1 (x2 + 1) σ else grd (inb x2 14) (if (σ.2.1 4 (x2).toNatClampNeg) = 0 then M_isTree_17 N k_52 n x1 (x2 + 1) σ else some (0, σ)) := rfl
def M_isTree_52 (N : Nat) (k_73 : Int32 → St → Option (Int32 × St)) : Nat → Int32 → Int32 → St → Option (Int32 × St)
  | 0, _, _, _ => none
  | n + 1, x1, x2, σ => if (σ.1 0) ≤ x2 then k_73 x1 σ else grd (inb x2 8) (lt (sa σ 7 (x2).toNatClampNeg (-1)) (fun σ7 => M_isTree_52 N k_73 n x1 (x2 + 1) σ7))
theorem M_isTree_52_s (N : Nat) (k_73 : Int32 → St → Option (Int32 × St)) (n : Nat) (x1 : Int32) (x2 : Int32) (σ : St) : M_isTree_52 N k_73 (n + 1) x1 x2 σ = if (σ.1 0) ≤ x2 then k_73 x1 σ else grd (inb x2 8) (lt (sa σ 7 (x2).toNatClampNeg (-1)) (fun σ7 => M_isTree_52 N k_73 n x1 (x2 + 1) σ7)) := rfl
def M_isTree_118 (N : Nat) (k_107 : Int32 → Int32 → Int32 → St → Option (Int32 × St)) : Nat → Int32 → Int32 → Int32 → Int32 → St → Option (Int32 × St)
  | 0, _, _, _, _, _ => none
  | n + 1, x1, x2, x3, x4, σ => if (σ.1 1) ≤ x4 then k_107 x1 x2 (x3 + 1) σ else if (M_has x1 x4) = 0 then M_isTree_118 N k_107 n x1 x2 x3 (x4 + 1) σ else grd (inb x4 14) (grd (inb x4 14) (bnd2 (M_goes N x4 (σ.2.1 0 (x4).toNatClampNeg) (σ.2.1 1 (x4).toNatClampNeg) x3 σ) (fun y12 σ13 => grd (inb x4 14) (grd (inb x4 14) (bnd2 (M_goes N x4 (σ13.2.1 1 (x4).toNatClampNeg) (σ13.2.1 0 (x4).toNatClampNeg) x3 σ13) (fun y16 σ17 => M_isTree_118 N k_107 n x1 (x2 + (y12 + y16)) x3 (x4 + 1) σ17))))))
theorem M_isTree_118_s (N : Nat) (k_107 : Int32 → Int32 → Int32 → St → Option (Int32 × St)) (n : Nat) (x1 : Int32) (x2 : Int32) (x3 : Int32) (x4 : Int32) (σ : St) : M_isTree_118 N k_107 (n + 1) x1 x2 x3 x4 σ = if (σ.1 1) ≤ x4 then k_107 x1 x2 (x3 + 1) σ else if (M_has x1 x4) = 0 then M_isTree_118 N k_107 n x1 x2 x3 (x4 + 1) σ else grd (inb x4 14) (grd (inb x4 14) (bnd2 (M_goes N x4 (σ.2.1 0 (x4).toNatClampNeg) (σ.2.1 1 (x4).toNatClampNeg) x3 σ) (fun y12 σ13 => grd (inb x4 14) (grd (inb x4 14) (bnd2 (M_goes N x4 (σ13.2.1 1 (x4).toNatClampNeg) (σ13.2.1 0 (x4).toNatClampNeg) x3 σ13) (fun y16 σ17 => M_isTree_118 N k_107 n x1 (x2 + (y12 + y16)) x3 (x4 + 1) σ17)))))) := rfl
def M_isTree_107 (N : Nat) (k_197 : Int32 → St → Option (Int32 × St)) : Nat → Int32 → Int32 → Int32 → St → Option (Int32 × St)
  | 0, _, _, _, _ => none
  | n + 1, x1, x2, x3, σ => if (σ.1 0) ≤ x3 then k_197 x2 σ else M_isTree_118 N (M_isTree_107 N k_197 n) N x1 x2 x3 0 σ
theorem M_isTree_107_s (N : Nat) (k_197 : Int32 → St → Option (Int32 × St)) (n : Nat) (x1 : Int32) (x2 : Int32) (x3 : Int32) (σ : St) : M_isTree_107 N k_197 (n + 1) x1 x2 x3 σ = if (σ.1 0) ≤ x3 then k_197 x2 σ else M_isTree_118 N (M_isTree_107 N k_197 n) N x1 x2 x3 0 σ := rfl
def M_isTree_197 (N : Nat) (x2 : Int32) (σ : St) : Option (Int32 × St) := if x2 = (σ.1 0) then some (1, σ) else some (0, σ)
def M_isTree_73 (N : Nat) (x1 : Int32) (σ : St) : Option (Int32 × St) := grd (inb (σ.1 2) 8) (lt (sa σ 7 ((σ.1 2)).toNatClampNeg 0) (fun σ21 => grd (inb (σ21.1 2) 8) (lt (sa σ21 8 ((σ21.1 2)).toNatClampNeg 0) (fun σ23 => grd (inb (σ23.1 2) 8) (lt (sa σ23 9 ((σ23.1 2)).toNatClampNeg (-1)) (fun σ25 => M_isTree_107 N (M_isTree_197 N) N x1 1 1 σ25))))))
def M_isTree (N : Nat) (x1 : Int32) (σ0 : St) : Option (Int32 × St) := bnd (M_sizeOf N x1) (fun y26 => if y26 = ((σ0.1 0) - 1) then M_isTree_17 N (M_isTree_52 N (M_isTree_73 N) N) N x1 0 σ0 else some (0, σ0))
abbrev rm_M_isTree : Room := { frames := 1, cells := 0, slots := 0, locals := 24 }
set_option maxHeartbeats 4000000 in
set_option maxRecDepth 100000 in
theorem k_M_isTree (l : Launch) (ad : Nat → Nat) (cI cJ cZ : ClassId) {N : Nat} {x1 : Int32} {σ0 : St} {r : Int32} {τ : St} (hf : M_isTree N x1 σ0 = some (r, τ)) : CtI l yX8_isTree (gws (.code yX8_isTree cX8_isTree 5 (some .boolean))) (rm_M_isTree) (ty3 cI cJ cZ) (mw ad cI cZ) [.ref (ad 0), .int x1] σ0 r τ := by
  refine CtI.of (by decide) (mw_ok ad cI cZ) (Nat.le_of_ble_eq_true rfl) ?_
  generalize hav : ([.ref (ad 0), .int x1] : List Value) = av
  intro p e s m below meth c D A hC ls hl hP hS
  obtain ⟨hx, hb, hr, hlocks, hml, hown, hts, hK, hN, hD, hA⟩ := id hC
  rw [← hav] at hl
  have hl : lv_has ls 5 [(0, .ref (ad 0)), (1, .int x1)] := hl
  unfold M_isTree at hf
  have hw_17 : ∀ (k_52 : Int32 → Int32 → St → Option (Int32 × St)) (hk_52 : ∀ (x1 : Int32) (x2 : Int32) (σ : St) (H : Heap) (locs : List Loc) (ls : Array Slot), va_P D vwCl ((mw ad cI cZ) σ) H → va_S A s.heap H locs → lv_has ls 5 [(0, .ref (ad 0)), (1, .int x1), (2, .int x2)] → k_52 x1 x2 σ = some (r, τ) → W p l e (rm_M_isTree) s m av.toArray below meth c H locs 0 0 (QI below av.toArray s D A (mw ad cI cZ) r τ) (F0 m 52 ls [])), ∀ (n : Nat), ∀ (x1 : Int32) (x2 : Int32) (σ : St) (H : Heap) (locs : List Loc) (ls : Array Slot), va_P D vwCl ((mw ad cI cZ) σ) H → va_S A s.heap H locs → lv_has ls 5 [(0, .ref (ad 0)), (1, .int x1), (2, .int x2)] → M_isTree_17 N k_52 n x1 x2 σ = some (r, τ) → W p l e (rm_M_isTree) s m av.toArray below meth c H locs 0 0 (QI below av.toArray s D A (mw ad cI cZ) r τ) (F0 m 17 ls []) := by
    intro k_52 hk_52
    intro n
    induction n with
    | zero =>
      intro x1 x2 σ H locs ls hP hS hl hf
      cases hf
    | succ n ih =>
      intro x1 x2 σ H locs ls hP hS hl hf
      rw [M_isTree_17_s] at hf
      refine lv_iload_n hx hb dX8_isTree_17 rfl (lv_at hl 2 rfl) ?_
      refine lv_aload_n hx hb dX8_isTree_18 rfl (lv_at hl 0 rfl) ?_
      refine mg_0_1 hC hP tw_720 dX8_isTree_19 ?_
      refine lv_icmp_ge (tgt := 50) hx hb dX8_isTree_22 (by decide) (fun c1 => ?_) (fun c1 => ?_)
      · rw [if_pos c1] at hf
        refine lv_iconst (v := 0) hx hb dX8_isTree_50 (by decide) ?_
        refine lv_istore_n (lv' := [(2, .int 0), (0, .ref (ad 0)), (1, .int x1)]) hx hb dX8_isTree_51 rfl hl (by decide) rfl (fun ls hl => ?_)
        exact hk_52 x1 0 σ H locs ls hP hS (lv_sub hl [1, 2, 0] rfl) hf
      rw [if_neg c1] at hf
      refine lv_iload_n hx hb dX8_isTree_25 rfl (lv_at hl 1 rfl) ?_
      refine lv_iload_n hx hb dX8_isTree_26 rfl (lv_at hl 2 rfl) ?_
      refine cSi (As := [.int x1, .int x2]) (rest := []) hC (k_M_has l (mw ad cI cZ) (mw_ok ad cI cZ) (ty3 cI cJ cZ) _ rfl) yy_X8_has tw_881 rfl rfl ⟨by decide, by decide⟩ hP hS rfl hl.1 rfl (Nat.le_of_ble_eq_true rfl) dX8_isTree_27 (fun H locs hP hS => ?_)
      refine lv_if_eq (tgt := 44) hx hb dX8_isTree_30 (by decide) (fun c2 => ?_) (fun c2 => ?_)
      · rw [if_pos c2] at hf
        refine lv_iinc (v := (x2 + 1)) (lv' := [(2, .int (x2 + 1)), (0, .ref (ad 0)), (1, .int x1)]) hx hb dX8_isTree_44 hl (k := 2) rfl rfl (by decide) rfl (fun ls hl => ?_)
        refine lv_goto (tgt := 17) hx hb dX8_isTree_47 (by decide) ?_
        exact ih x1 (x2 + 1) σ H locs ls hP hS (lv_sub hl [1, 2, 0] rfl) hf
      rw [if_neg c2] at hf
      refine lv_aload_n hx hb dX8_isTree_33 rfl (lv_at hl 0 rfl) ?_
      refine mg_0_12 hC hP tw_731 dX8_isTree_34 ?_
      refine lv_iload_n hx hb dX8_isTree_37 rfl (lv_at hl 2 rfl) ?_
      obtain ⟨g3, hf⟩ := grd_some hf
      refine ml_5 hC hP g3 dX8_isTree_38 ?_
      refine lv_if_eq (tgt := 44) hx hb dX8_isTree_39 (by decide) (fun c4 => ?_) (fun c4 => ?_)
      · rw [if_pos c4] at hf
        refine lv_iinc (v := (x2 + 1)) (lv' := [(2, .int (x2 + 1)), (0, .ref (ad 0)), (1, .int x1)]) hx hb dX8_isTree_44 hl (k := 2) rfl rfl (by decide) rfl (fun ls hl => ?_)
        refine lv_goto (tgt := 17) hx hb dX8_isTree_47 (by decide) ?_
        exact ih x1 (x2 + 1) σ H locs ls hP hS (lv_sub hl [1, 2, 0] rfl) hf
      rw [if_neg c4] at hf
      refine lv_iconst (v := 0) hx hb dX8_isTree_42 (by decide) ?_
      obtain ⟨h1, h2⟩ := ret2 hf
      exact retZ hx hb hr hlocks hP hS (Or.inl rfl) h1 h2 dX8_isTree_43
  have hw_52 : ∀ (k_73 : Int32 → St → Option (Int32 × St)) (hk_73 : ∀ (x1 : Int32) (σ : St) (H : Heap) (locs : List Loc) (ls : Array Slot), va_P D vwCl ((mw ad cI cZ) σ) H → va_S A s.heap H locs → lv_has ls 5 [(0, .ref (ad 0)), (1, .int x1)] → k_73 x1 σ = some (r, τ) → W p l e (rm_M_isTree) s m av.toArray below meth c H locs 0 0 (QI below av.toArray s D A (mw ad cI cZ) r τ) (F0 m 73 ls [])), ∀ (n : Nat), ∀ (x1 : Int32) (x2 : Int32) (σ : St) (H : Heap) (locs : List Loc) (ls : Array Slot), va_P D vwCl ((mw ad cI cZ) σ) H → va_S A s.heap H locs → lv_has ls 5 [(0, .ref (ad 0)), (1, .int x1), (2, .int x2)] → M_isTree_52 N k_73 n x1 x2 σ = some (r, τ) → W p l e (rm_M_isTree) s m av.toArray below meth c H locs 0 0 (QI below av.toArray s D A (mw ad cI cZ) r τ) (F0 m 52 ls []) := by
    intro k_73 hk_73
    intro n
    induction n with
    | zero =>
      intro x1 x2 σ H locs ls hP hS hl hf
      cases hf
    | succ n ih =>
      intro x1 x2 σ H locs ls hP hS hl hf
      rw [M_isTree_52_s] at hf
      refine lv_iload_n hx hb dX8_isTree_52 rfl (lv_at hl 2 rfl) ?_
      refine lv_aload_n hx hb dX8_isTree_53 rfl (lv_at hl 0 rfl) ?_
      refine mg_0_0 hC hP tw_719 dX8_isTree_54 ?_
      refine lv_icmp_ge (tgt := 73) hx hb dX8_isTree_57 (by decide) (fun c5 => ?_) (fun c5 => ?_)
      · rw [if_pos c5] at hf
        exact hk_73 x1 σ H locs ls hP hS (lv_sub hl [0, 1] rfl) hf
      rw [if_neg c5] at hf
      refine lv_aload_n hx hb dX8_isTree_60 rfl (lv_at hl 0 rfl) ?_
      refine mg_0_15 hC hP tw_734 dX8_isTree_61 ?_
      refine lv_iload_n hx hb dX8_isTree_64 rfl (lv_at hl 2 rfl) ?_
      refine lv_iconst (v := (-1)) hx hb dX8_isTree_65 (by decide) ?_
      obtain ⟨g6, hf⟩ := grd_some hf
      refine ms_8 hC hP hS g6 dX8_isTree_66 (fun H locs hP hS => ?_)
      obtain ⟨σ7, eσ7, hf⟩ := lt_e hf
      rw [← eσ7] at hP
      refine lv_iinc (v := (x2 + 1)) (lv' := [(2, .int (x2 + 1)), (0, .ref (ad 0)), (1, .int x1)]) hx hb dX8_isTree_67 hl (k := 2) rfl rfl (by decide) rfl (fun ls hl => ?_)
      refine lv_goto (tgt := 52) hx hb dX8_isTree_70 (by decide) ?_
      exact ih x1 (x2 + 1) σ7 H locs ls hP hS (lv_sub hl [1, 2, 0] rfl) hf
  have hw_118 : ∀ (k_107 : Int32 → Int32 → Int32 → St → Option (Int32 × St)) (hk_107 : ∀ (x1 : Int32) (x2 : Int32) (x3 : Int32) (σ : St) (H : Heap) (locs : List Loc) (ls : Array Slot), va_P D vwCl ((mw ad cI cZ) σ) H → va_S A s.heap H locs → lv_has ls 5 [(0, .ref (ad 0)), (1, .int x1), (2, .int x2), (3, .int x3)] → k_107 x1 x2 x3 σ = some (r, τ) → W p l e (rm_M_isTree) s m av.toArray below meth c H locs 0 0 (QI below av.toArray s D A (mw ad cI cZ) r τ) (F0 m 107 ls [])), ∀ (n : Nat), ∀ (x1 : Int32) (x2 : Int32) (x3 : Int32) (x4 : Int32) (σ : St) (H : Heap) (locs : List Loc) (ls : Array Slot), va_P D vwCl ((mw ad cI cZ) σ) H → va_S A s.heap H locs → lv_has ls 5 [(0, .ref (ad 0)), (1, .int x1), (2, .int x2), (3, .int x3), (4, .int x4)] → M_isTree_118 N k_107 n x1 x2 x3 x4 σ = some (r, τ) → W p l e (rm_M_isTree) s m av.toArray below meth c H locs 0 0 (QI below av.toArray s D A (mw ad cI cZ) r τ) (F0 m 118 ls []) := by
    intro k_107 hk_107
    intro n
    induction n with
    | zero =>
      intro x1 x2 x3 x4 σ H locs ls hP hS hl hf
      cases hf
    | succ n ih =>
      intro x1 x2 x3 x4 σ H locs ls hP hS hl hf
      rw [M_isTree_118_s] at hf
      refine lv_iload hx hb dX8_isTree_118 (lv_at hl 4 rfl) ?_
      refine lv_aload_n hx hb dX8_isTree_120 rfl (lv_at hl 0 rfl) ?_
      refine mg_0_1 hC hP tw_720 dX8_isTree_121 ?_
      refine lv_icmp_ge (tgt := 191) hx hb dX8_isTree_124 (by decide) (fun c8 => ?_) (fun c8 => ?_)
      · rw [if_pos c8] at hf
        refine lv_iinc (v := (x3 + 1)) (lv' := [(3, .int (x3 + 1)), (0, .ref (ad 0)), (1, .int x1), (2, .int x2), (4, .int x4)]) hx hb dX8_isTree_191 hl (k := 3) rfl rfl (by decide) rfl (fun ls hl => ?_)
        refine lv_goto (tgt := 107) hx hb dX8_isTree_194 (by decide) ?_
        exact hk_107 x1 x2 (x3 + 1) σ H locs ls hP hS (lv_sub hl [1, 2, 3, 0] rfl) hf
      rw [if_neg c8] at hf
      refine lv_iload_n hx hb dX8_isTree_127 rfl (lv_at hl 1 rfl) ?_
      refine lv_iload hx hb dX8_isTree_128 (lv_at hl 4 rfl) ?_
      refine cSi (As := [.int x1, .int x4]) (rest := []) hC (k_M_has l (mw ad cI cZ) (mw_ok ad cI cZ) (ty3 cI cJ cZ) _ rfl) yy_X8_has tw_881 rfl rfl ⟨by decide, by decide⟩ hP hS rfl hl.1 rfl (Nat.le_of_ble_eq_true rfl) dX8_isTree_130 (fun H locs hP hS => ?_)
      refine lv_if_ne (tgt := 139) hx hb dX8_isTree_133 (by decide) (fun c9 => ?_) (fun c9 => ?_)
      · rw [if_neg c9] at hf
        refine lv_iload_n hx hb dX8_isTree_139 rfl (lv_at hl 2 rfl) ?_
        refine lv_aload_n hx hb dX8_isTree_140 rfl (lv_at hl 0 rfl) ?_
        refine lv_iload hx hb dX8_isTree_141 (lv_at hl 4 rfl) ?_
        refine lv_aload_n hx hb dX8_isTree_143 rfl (lv_at hl 0 rfl) ?_
        refine mg_0_8 hC hP tw_727 dX8_isTree_144 ?_
        refine lv_iload hx hb dX8_isTree_147 (lv_at hl 4 rfl) ?_
        obtain ⟨g10, hf⟩ := grd_some hf
        refine ml_1 hC hP g10 dX8_isTree_149 ?_
        refine lv_aload_n hx hb dX8_isTree_150 rfl (lv_at hl 0 rfl) ?_
        refine mg_0_9 hC hP tw_728 dX8_isTree_151 ?_
        refine lv_iload hx hb dX8_isTree_154 (lv_at hl 4 rfl) ?_
        obtain ⟨g11, hf⟩ := grd_some hf
        refine ml_2 hC hP g11 dX8_isTree_156 ?_
        refine lv_iload_n hx hb dX8_isTree_157 rfl (lv_at hl 3 rfl) ?_
        obtain ⟨y12, σ13, hcy12, hf⟩ := bnd2_some hf
        refine cVi (As := [.int x4, .int (σ.2.1 0 (x4).toNatClampNeg), .int (σ.2.1 1 (x4).toNatClampNeg), .int x3]) (rest := [.int x2]) hC (k_M_goes l ad cI cJ cZ hcy12) yy_X8_goes tw_884 rfl rfl ⟨by decide, by decide⟩ hP hS (q0 := 0) (ci := 8) rfl rfl (mwa_0 ..) rfl hl.1 rfl (Nat.le_of_ble_eq_true rfl) dX8_isTree_158 (fun H locs hP hS => ?_)
        refine lv_aload_n hx hb dX8_isTree_161 rfl (lv_at hl 0 rfl) ?_
        refine lv_iload hx hb dX8_isTree_162 (lv_at hl 4 rfl) ?_
        refine lv_aload_n hx hb dX8_isTree_164 rfl (lv_at hl 0 rfl) ?_
        refine mg_0_9 hC hP tw_728 dX8_isTree_165 ?_
        refine lv_iload hx hb dX8_isTree_168 (lv_at hl 4 rfl) ?_
        obtain ⟨g14, hf⟩ := grd_some hf
        refine ml_2 hC hP g14 dX8_isTree_170 ?_
        refine lv_aload_n hx hb dX8_isTree_171 rfl (lv_at hl 0 rfl) ?_
        refine mg_0_8 hC hP tw_727 dX8_isTree_172 ?_
        refine lv_iload hx hb dX8_isTree_175 (lv_at hl 4 rfl) ?_
        obtain ⟨g15, hf⟩ := grd_some hf
        refine ml_1 hC hP g15 dX8_isTree_177 ?_
        refine lv_iload_n hx hb dX8_isTree_178 rfl (lv_at hl 3 rfl) ?_
        obtain ⟨y16, σ17, hcy16, hf⟩ := bnd2_some hf
        refine cVi (As := [.int x4, .int (σ13.2.1 1 (x4).toNatClampNeg), .int (σ13.2.1 0 (x4).toNatClampNeg), .int x3]) (rest := [.int y12, .int x2]) hC (k_M_goes l ad cI cJ cZ hcy16) yy_X8_goes tw_884 rfl rfl ⟨by decide, by decide⟩ hP hS (q0 := 0) (ci := 8) rfl rfl (mwa_0 ..) rfl hl.1 rfl (Nat.le_of_ble_eq_true rfl) dX8_isTree_179 (fun H locs hP hS => ?_)
        refine lv_iadd hx hb dX8_isTree_182 ?_
        refine lv_iadd hx hb dX8_isTree_183 ?_
        refine lv_istore_n (lv' := [(2, .int (x2 + (y12 + y16))), (0, .ref (ad 0)), (1, .int x1), (3, .int x3), (4, .int x4)]) hx hb dX8_isTree_184 rfl hl (by decide) rfl (fun ls hl => ?_)
        refine lv_iinc (v := (x4 + 1)) (lv' := [(4, .int (x4 + 1)), (2, .int (x2 + (y12 + y16))), (0, .ref (ad 0)), (1, .int x1), (3, .int x3)]) hx hb dX8_isTree_185 hl (k := 4) rfl rfl (by decide) rfl (fun ls hl => ?_)
        refine lv_goto (tgt := 118) hx hb dX8_isTree_188 (by decide) ?_
        exact ih x1 (x2 + (y12 + y16)) x3 (x4 + 1) σ17 H locs ls hP hS (lv_sub hl [2, 3, 1, 4, 0] rfl) hf
      rw [if_pos c9] at hf
      refine lv_goto (tgt := 185) hx hb dX8_isTree_136 (by decide) ?_
      refine lv_iinc (v := (x4 + 1)) (lv' := [(4, .int (x4 + 1)), (0, .ref (ad 0)), (1, .int x1), (2, .int x2), (3, .int x3)]) hx hb dX8_isTree_185 hl (k := 4) rfl rfl (by decide) rfl (fun ls hl => ?_)
      refine lv_goto (tgt := 118) hx hb dX8_isTree_188 (by decide) ?_
      exact ih x1 x2 x3 (x4 + 1) σ H locs ls hP hS (lv_sub hl [1, 2, 3, 4, 0] rfl) hf
  have hw_107 : ∀ (k_197 : Int32 → St → Option (Int32 × St)) (hk_197 : ∀ (x2 : Int32) (σ : St) (H : Heap) (locs : List Loc) (ls : Array Slot), va_P D vwCl ((mw ad cI cZ) σ) H → va_S A s.heap H locs → lv_has ls 5 [(0, .ref (ad 0)), (2, .int x2)] → k_197 x2 σ = some (r, τ) → W p l e (rm_M_isTree) s m av.toArray below meth c H locs 0 0 (QI below av.toArray s D A (mw ad cI cZ) r τ) (F0 m 197 ls [])), ∀ (n : Nat), ∀ (x1 : Int32) (x2 : Int32) (x3 : Int32) (σ : St) (H : Heap) (locs : List Loc) (ls : Array Slot), va_P D vwCl ((mw ad cI cZ) σ) H → va_S A s.heap H locs → lv_has ls 5 [(0, .ref (ad 0)), (1, .int x1), (2, .int x2), (3, .int x3)] → M_isTree_107 N k_197 n x1 x2 x3 σ = some (r, τ) → W p l e (rm_M_isTree) s m av.toArray below meth c H locs 0 0 (QI below av.toArray s D A (mw ad cI cZ) r τ) (F0 m 107 ls []) := by
    intro k_197 hk_197
    intro n
    induction n with
    | zero =>
      intro x1 x2 x3 σ H locs ls hP hS hl hf
      cases hf
    | succ n ih =>
      intro x1 x2 x3 σ H locs ls hP hS hl hf
      rw [M_isTree_107_s] at hf
      refine lv_iload_n hx hb dX8_isTree_107 rfl (lv_at hl 3 rfl) ?_
      refine lv_aload_n hx hb dX8_isTree_108 rfl (lv_at hl 0 rfl) ?_
      refine mg_0_0 hC hP tw_719 dX8_isTree_109 ?_
      refine lv_icmp_ge (tgt := 197) hx hb dX8_isTree_112 (by decide) (fun c18 => ?_) (fun c18 => ?_)
      · rw [if_pos c18] at hf
        exact hk_197 x2 σ H locs ls hP hS (lv_sub hl [0, 2] rfl) hf
      rw [if_neg c18] at hf
      refine lv_iconst (v := 0) hx hb dX8_isTree_115 (by decide) ?_
      refine lv_istore (lv' := [(4, .int 0), (0, .ref (ad 0)), (1, .int x1), (2, .int x2), (3, .int x3)]) hx hb dX8_isTree_116 hl (by decide) rfl (fun ls hl => ?_)
      exact hw_118 (M_isTree_107 N k_197 n) ih N x1 x2 x3 0 σ H locs ls hP hS (lv_sub hl [1, 2, 3, 4, 0] rfl) hf
  have hw_197 : ∀ (x2 : Int32) (σ : St) (H : Heap) (locs : List Loc) (ls : Array Slot), va_P D vwCl ((mw ad cI cZ) σ) H → va_S A s.heap H locs → lv_has ls 5 [(0, .ref (ad 0)), (2, .int x2)] → M_isTree_197 N x2 σ = some (r, τ) → W p l e (rm_M_isTree) s m av.toArray below meth c H locs 0 0 (QI below av.toArray s D A (mw ad cI cZ) r τ) (F0 m 197 ls []) := by
    intro x2 σ H locs ls hP hS hl hf
    unfold M_isTree_197 at hf
    refine lv_iload_n hx hb dX8_isTree_197 rfl (lv_at hl 1 rfl) ?_
    refine lv_aload_n hx hb dX8_isTree_198 rfl (lv_at hl 0 rfl) ?_
    refine mg_0_0 hC hP tw_719 dX8_isTree_199 ?_
    refine lv_icmp_ne (tgt := 209) hx hb dX8_isTree_202 (by decide) (fun c19 => ?_) (fun c19 => ?_)
    · rw [if_neg c19] at hf
      refine lv_iconst (v := 0) hx hb dX8_isTree_209 (by decide) ?_
      obtain ⟨h1, h2⟩ := ret2 hf
      exact retZ hx hb hr hlocks hP hS (Or.inl rfl) h1 h2 dX8_isTree_210
    rw [if_pos c19] at hf
    refine lv_iconst (v := 1) hx hb dX8_isTree_205 (by decide) ?_
    refine lv_goto (tgt := 210) hx hb dX8_isTree_206 (by decide) ?_
    obtain ⟨h1, h2⟩ := ret2 hf
    exact retZ hx hb hr hlocks hP hS (Or.inr rfl) h1 h2 dX8_isTree_210
  have hw_73 : ∀ (x1 : Int32) (σ : St) (H : Heap) (locs : List Loc) (ls : Array Slot), va_P D vwCl ((mw ad cI cZ) σ) H → va_S A s.heap H locs → lv_has ls 5 [(0, .ref (ad 0)), (1, .int x1)] → M_isTree_73 N x1 σ = some (r, τ) → W p l e (rm_M_isTree) s m av.toArray below meth c H locs 0 0 (QI below av.toArray s D A (mw ad cI cZ) r τ) (F0 m 73 ls []) := by
    intro x1 σ H locs ls hP hS hl hf
    unfold M_isTree_73 at hf
    refine lv_aload_n hx hb dX8_isTree_73 rfl (lv_at hl 0 rfl) ?_
    refine mg_0_15 hC hP tw_734 dX8_isTree_74 ?_
    refine lv_aload_n hx hb dX8_isTree_77 rfl (lv_at hl 0 rfl) ?_
    refine mg_0_2 hC hP tw_721 dX8_isTree_78 ?_
    refine lv_iconst (v := 0) hx hb dX8_isTree_81 (by decide) ?_
    obtain ⟨g20, hf⟩ := grd_some hf
    refine ms_8 hC hP hS g20 dX8_isTree_82 (fun H locs hP hS => ?_)
    obtain ⟨σ21, eσ21, hf⟩ := lt_e hf
    rw [← eσ21] at hP
    refine lv_aload_n hx hb dX8_isTree_83 rfl (lv_at hl 0 rfl) ?_
    refine mg_0_16 hC hP tw_735 dX8_isTree_84 ?_
    refine lv_aload_n hx hb dX8_isTree_87 rfl (lv_at hl 0 rfl) ?_
    refine mg_0_2 hC hP tw_721 dX8_isTree_88 ?_
    refine lv_iconst (v := 0) hx hb dX8_isTree_91 (by decide) ?_
    obtain ⟨g22, hf⟩ := grd_some hf
    refine ms_9 hC hP hS g22 dX8_isTree_92 (fun H locs hP hS => ?_)
    obtain ⟨σ23, eσ23, hf⟩ := lt_e hf
    rw [← eσ23] at hP
    refine lv_aload_n hx hb dX8_isTree_93 rfl (lv_at hl 0 rfl) ?_
    refine mg_0_17 hC hP tw_736 dX8_isTree_94 ?_
    refine lv_aload_n hx hb dX8_isTree_97 rfl (lv_at hl 0 rfl) ?_
    refine mg_0_2 hC hP tw_721 dX8_isTree_98 ?_
    refine lv_iconst (v := (-1)) hx hb dX8_isTree_101 (by decide) ?_
    obtain ⟨g24, hf⟩ := grd_some hf
    refine ms_10 hC hP hS g24 dX8_isTree_102 (fun H locs hP hS => ?_)
    obtain ⟨σ25, eσ25, hf⟩ := lt_e hf
    rw [← eσ25] at hP
    refine lv_iconst (v := 1) hx hb dX8_isTree_103 (by decide) ?_
    refine lv_istore_n (lv' := [(2, .int 1), (0, .ref (ad 0)), (1, .int x1)]) hx hb dX8_isTree_104 rfl hl (by decide) rfl (fun ls hl => ?_)
    refine lv_iconst (v := 1) hx hb dX8_isTree_105 (by decide) ?_
    refine lv_istore_n (lv' := [(3, .int 1), (2, .int 1), (0, .ref (ad 0)), (1, .int x1)]) hx hb dX8_isTree_106 rfl hl (by decide) rfl (fun ls hl => ?_)
    exact hw_107 (M_isTree_197 N) hw_197 N x1 1 1 σ25 H locs ls hP hS (lv_sub hl [2, 3, 1, 0] rfl) hf
  obtain ⟨H, hH⟩ : ∃ z, z = s.heap := ⟨_, rfl⟩
  obtain ⟨locs, hlocs⟩ : ∃ z : List Loc, z = [] := ⟨_, rfl⟩
  rw [← hH] at hP
  have hS : va_S A s.heap H locs := by rw [hH, hlocs]; exact va_S.rf
  suffices hgoal : W p l e _ s m _ below meth c H locs 0 0 _ _ by rw [hH, hlocs] at hgoal; exact hgoal
  refine lv_iload_n hx hb dX8_isTree_0 rfl (lv_at hl 1 rfl) ?_
  obtain ⟨y26, hcy26, hf⟩ := bnd_some hf
  refine cSi (As := [.int x1]) (rest := []) hC (k_M_sizeOf l (mw ad cI cZ) (mw_ok ad cI cZ) (ty3 cI cJ cZ) _ hcy26) yy_X8_sizeOf tw_878 rfl rfl ⟨by decide, by decide⟩ hP hS rfl hl.1 rfl (Nat.le_of_ble_eq_true rfl) dX8_isTree_1 (fun H locs hP hS => ?_)
  refine lv_aload_n hx hb dX8_isTree_4 rfl (lv_at hl 0 rfl) ?_
  refine mg_0_0 hC hP tw_719 dX8_isTree_5 ?_
  refine lv_iconst (v := 1) hx hb dX8_isTree_8 (by decide) ?_
  refine lv_isub hx hb dX8_isTree_9 ?_
  refine lv_icmp_eq (tgt := 15) hx hb dX8_isTree_10 (by decide) (fun c27 => ?_) (fun c27 => ?_)
  · rw [if_pos c27] at hf
    refine lv_iconst (v := 0) hx hb dX8_isTree_15 (by decide) ?_
    refine lv_istore_n (lv' := [(2, .int 0), (0, .ref (ad 0)), (1, .int x1)]) hx hb dX8_isTree_16 rfl hl (by decide) rfl (fun ls hl => ?_)
    exact hw_17 (M_isTree_52 N (M_isTree_73 N) N) (hw_52 (M_isTree_73 N) hw_73 N) N x1 0 σ0 H locs ls hP hS (lv_sub hl [1, 2, 0] rfl) hf
  rw [if_neg c27] at hf
  refine lv_iconst (v := 0) hx hb dX8_isTree_13 (by decide) ?_
  obtain ⟨h1, h2⟩ := ret2 hf
  exact retZ hx hb hr hlocks hP hS (Or.inl rfl) h1 h2 dX8_isTree_14
theorem dX8_linesAt_0 : decode cX8_linesAt 0 = .ok (.iconst 0, 1) := by decide +kernel
theorem dX8_linesAt_1 : decode cX8_linesAt 1 = .ok (.istore_n 3, 1) := by decide +kernel
theorem dX8_linesAt_2 : decode cX8_linesAt 2 = .ok (.iconst 0, 1) := by decide +kernel
theorem dX8_linesAt_3 : decode cX8_linesAt 3 = .ok (.istore 4, 2) := by decide +kernel
theorem dX8_linesAt_5 : decode cX8_linesAt 5 = .ok (.iload 4, 2) := by decide +kernel
theorem dX8_linesAt_7 : decode cX8_linesAt 7 = .ok (.aload_n 0, 1) := by decide +kernel
theorem dX8_linesAt_8 : decode cX8_linesAt 8 = .ok (.getfield 87, 3) := by decide +kernel
theorem dX8_linesAt_11 : decode cX8_linesAt 11 = .ok (.if_icmp .ge 48, 3) := by decide +kernel
theorem dX8_linesAt_14 : decode cX8_linesAt 14 = .ok (.iload_n 3, 1) := by decide +kernel
theorem dX8_linesAt_15 : decode cX8_linesAt 15 = .ok (.iload_n 1, 1) := by decide +kernel
theorem dX8_linesAt_16 : decode cX8_linesAt 16 = .ok (.iload 4, 2) := by decide +kernel
theorem dX8_linesAt_18 : decode cX8_linesAt 18 = .ok (.invokestatic 115, 3) := by decide +kernel
theorem dX8_linesAt_21 : decode cX8_linesAt 21 = .ok (.ifCond .eq 29, 3) := by decide +kernel
theorem dX8_linesAt_24 : decode cX8_linesAt 24 = .ok (.aload_n 0, 1) := by decide +kernel
theorem dX8_linesAt_25 : decode cX8_linesAt 25 = .ok (.getfield 25, 3) := by decide +kernel
theorem dX8_linesAt_28 : decode cX8_linesAt 28 = .ok (.iload 4, 2) := by decide +kernel
theorem dX8_linesAt_30 : decode cX8_linesAt 30 = .ok (.iaload, 1) := by decide +kernel
theorem dX8_linesAt_31 : decode cX8_linesAt 31 = .ok (.iload_n 2, 1) := by decide +kernel
theorem dX8_linesAt_32 : decode cX8_linesAt 32 = .ok (.if_icmp .eq 14, 3) := by decide +kernel
theorem dX8_linesAt_35 : decode cX8_linesAt 35 = .ok (.aload_n 0, 1) := by decide +kernel
theorem dX8_linesAt_36 : decode cX8_linesAt 36 = .ok (.getfield 29, 3) := by decide +kernel
theorem dX8_linesAt_39 : decode cX8_linesAt 39 = .ok (.iload 4, 2) := by decide +kernel
theorem dX8_linesAt_41 : decode cX8_linesAt 41 = .ok (.iaload, 1) := by decide +kernel
theorem dX8_linesAt_42 : decode cX8_linesAt 42 = .ok (.iload_n 2, 1) := by decide +kernel
theorem dX8_linesAt_43 : decode cX8_linesAt 43 = .ok (.if_icmp .ne 7, 3) := by decide +kernel
theorem dX8_linesAt_46 : decode cX8_linesAt 46 = .ok (.iconst 1, 1) := by decide +kernel
theorem dX8_linesAt_47 : decode cX8_linesAt 47 = .ok (.goto 4, 3) := by decide +kernel
theorem dX8_linesAt_50 : decode cX8_linesAt 50 = .ok (.iconst 0, 1) := by decide +kernel
theorem dX8_linesAt_51 : decode cX8_linesAt 51 = .ok (.iadd, 1) := by decide +kernel
theorem dX8_linesAt_52 : decode cX8_linesAt 52 = .ok (.istore_n 3, 1) := by decide +kernel
theorem dX8_linesAt_53 : decode cX8_linesAt 53 = .ok (.iinc 4 1, 3) := by decide +kernel
theorem dX8_linesAt_56 : decode cX8_linesAt 56 = .ok (.goto (-51), 3) := by decide +kernel
theorem dX8_linesAt_59 : decode cX8_linesAt 59 = .ok (.iload_n 3, 1) := by decide +kernel
theorem dX8_linesAt_60 : decode cX8_linesAt 60 = .ok (.ireturn, 1) := by decide +kernel
def M_linesAt_5 (N : Nat) : Nat → Int32 → Int32 → Int32 → Int32 → St → Option (Int32)
  | 0, _, _, _, _, _ => none
  | n + 1, x1, x2, x3, x4, σ0 => if (σ0.1 1) ≤ x4 then some x3 else if (M_has x1 x4) = 0 then M_linesAt_5 N n x1 x2 (x3 + 0) (x4 + 1) σ0 else grd (inb x4 14) (if (σ0.2.1 0 (x4).toNatClampNeg) = x2 then M_linesAt_5 N n x1 x2 (x3 + 1) (x4 + 1) σ0 else grd (inb x4 14) (if (σ0.2.1 1 (x4).toNatClampNeg) = x2 then M_linesAt_5 N n x1 x2 (x3 + 1) (x4 + 1) σ0 else M_linesAt_5 N n x1 x2 (x3 + 0) (x4 + 1) σ0))
theorem M_linesAt_5_s (N : Nat) (n : Nat) (x1 : Int32) (x2 : Int32) (x3 : Int32) (x4 : Int32) (σ0 : St) : M_linesAt_5 N (n + 1) x1 x2 x3 x4 σ0 = if (σ0.1 1) ≤ x4 then some x3 else if (M_has x1 x4) = 0 then M_linesAt_5 N n x1 x2 (x3 + 0) (x4 + 1) σ0 else grd (inb x4 14) (if (σ0.2.1 0 (x4).toNatClampNeg) = x2 then M_linesAt_5 N n x1 x2 (x3 + 1) (x4 + 1) σ0 else grd (inb x4 14) (if (σ0.2.1 1 (x4).toNatClampNeg) = x2 then M_linesAt_5 N n x1 x2 (x3 + 1) (x4 + 1) σ0 else M_linesAt_5 N n x1 x2 (x3 + 0) (x4 + 1) σ0)) := rfl
def M_linesAt (N : Nat) (x1 : Int32) (x2 : Int32) (σ0 : St) : Option (Int32) := M_linesAt_5 N N x1 x2 0 0 σ0
abbrev rm_M_linesAt : Room := { frames := 1, cells := 0, slots := 0, locals := 21 }
set_option maxHeartbeats 4000000 in
set_option maxRecDepth 100000 in
theorem k_M_linesAt (l : Launch) (ad : Nat → Nat) (cI cJ cZ : ClassId) {N : Nat} {x1 : Int32} {x2 : Int32} {σ0 : St} {r : Int32} (hf : M_linesAt N x1 x2 σ0 = some r) : CtI l yX8_linesAt (gws (.code yX8_linesAt cX8_linesAt 5 (some .int))) (rm_M_linesAt) (ty3 cI cJ cZ) (mw ad cI cZ) [.ref (ad 0), .int x1, .int x2] σ0 r σ0 := by
  refine CtI.of (by decide) (mw_ok ad cI cZ) (Nat.le_of_ble_eq_true rfl) ?_
  generalize hav : ([.ref (ad 0), .int x1, .int x2] : List Value) = av
  intro p e s m below meth c D A hC ls hl hP hS
  obtain ⟨hx, hb, hr, hlocks, hml, hown, hts, hK, hN, hD, hA⟩ := id hC
  rw [← hav] at hl
  have hl : lv_has ls 5 [(0, .ref (ad 0)), (1, .int x1), (2, .int x2)] := hl
  unfold M_linesAt at hf
  have hw_5 : ∀ (n : Nat), ∀ (x1 : Int32) (x2 : Int32) (x3 : Int32) (x4 : Int32) (H : Heap) (locs : List Loc) (ls : Array Slot), va_P D vwCl ((mw ad cI cZ) σ0) H → va_S A s.heap H locs → lv_has ls 5 [(0, .ref (ad 0)), (1, .int x1), (2, .int x2), (3, .int x3), (4, .int x4)] → M_linesAt_5 N n x1 x2 x3 x4 σ0 = some r → W p l e (rm_M_linesAt) s m av.toArray below meth c H locs 0 0 (QI below av.toArray s D A (mw ad cI cZ) r σ0) (F0 m 5 ls []) := by
    intro n
    induction n with
    | zero =>
      intro x1 x2 x3 x4 H locs ls hP hS hl hf
      cases hf
    | succ n ih =>
      intro x1 x2 x3 x4 H locs ls hP hS hl hf
      rw [M_linesAt_5_s] at hf
      refine lv_iload hx hb dX8_linesAt_5 (lv_at hl 4 rfl) ?_
      refine lv_aload_n hx hb dX8_linesAt_7 rfl (lv_at hl 0 rfl) ?_
      refine mg_0_1 hC hP tw_720 dX8_linesAt_8 ?_
      refine lv_icmp_ge (tgt := 59) hx hb dX8_linesAt_11 (by decide) (fun c1 => ?_) (fun c1 => ?_)
      · rw [if_pos c1] at hf
        refine lv_iload_n hx hb dX8_linesAt_59 rfl (lv_at hl 3 rfl) ?_
        have h1 := Option.some.inj hf
        exact retI hx hb hr hlocks hP hS h1 rfl dX8_linesAt_60
      rw [if_neg c1] at hf
      refine lv_iload_n hx hb dX8_linesAt_14 rfl (lv_at hl 3 rfl) ?_
      refine lv_iload_n hx hb dX8_linesAt_15 rfl (lv_at hl 1 rfl) ?_
      refine lv_iload hx hb dX8_linesAt_16 (lv_at hl 4 rfl) ?_
      refine cSi (As := [.int x1, .int x4]) (rest := [.int x3]) hC (k_M_has l (mw ad cI cZ) (mw_ok ad cI cZ) (ty3 cI cJ cZ) _ rfl) yy_X8_has tw_881 rfl rfl ⟨by decide, by decide⟩ hP hS rfl hl.1 rfl (Nat.le_of_ble_eq_true rfl) dX8_linesAt_18 (fun H locs hP hS => ?_)
      refine lv_if_eq (tgt := 50) hx hb dX8_linesAt_21 (by decide) (fun c2 => ?_) (fun c2 => ?_)
      · rw [if_pos c2] at hf
        refine lv_iconst (v := 0) hx hb dX8_linesAt_50 (by decide) ?_
        refine lv_iadd hx hb dX8_linesAt_51 ?_
        refine lv_istore_n (lv' := [(3, .int (x3 + 0)), (0, .ref (ad 0)), (1, .int x1), (2, .int x2), (4, .int x4)]) hx hb dX8_linesAt_52 rfl hl (by decide) rfl (fun ls hl => ?_)
        refine lv_iinc (v := (x4 + 1)) (lv' := [(4, .int (x4 + 1)), (3, .int (x3 + 0)), (0, .ref (ad 0)), (1, .int x1), (2, .int x2)]) hx hb dX8_linesAt_53 hl (k := 4) rfl rfl (by decide) rfl (fun ls hl => ?_)
        refine lv_goto (tgt := 5) hx hb dX8_linesAt_56 (by decide) ?_
        exact ih x1 x2 (x3 + 0) (x4 + 1) H locs ls hP hS (lv_sub hl [2, 3, 4, 1, 0] rfl) hf
      rw [if_neg c2] at hf
      refine lv_aload_n hx hb dX8_linesAt_24 rfl (lv_at hl 0 rfl) ?_
      refine mg_0_8 hC hP tw_727 dX8_linesAt_25 ?_
      refine lv_iload hx hb dX8_linesAt_28 (lv_at hl 4 rfl) ?_
      obtain ⟨g3, hf⟩ := grd_some hf
      refine ml_1 hC hP g3 dX8_linesAt_30 ?_
      refine lv_iload_n hx hb dX8_linesAt_31 rfl (lv_at hl 2 rfl) ?_
      refine lv_icmp_eq (tgt := 46) hx hb dX8_linesAt_32 (by decide) (fun c4 => ?_) (fun c4 => ?_)
      · rw [if_pos c4] at hf
        refine lv_iconst (v := 1) hx hb dX8_linesAt_46 (by decide) ?_
        refine lv_goto (tgt := 51) hx hb dX8_linesAt_47 (by decide) ?_
        refine lv_iadd hx hb dX8_linesAt_51 ?_
        refine lv_istore_n (lv' := [(3, .int (x3 + 1)), (0, .ref (ad 0)), (1, .int x1), (2, .int x2), (4, .int x4)]) hx hb dX8_linesAt_52 rfl hl (by decide) rfl (fun ls hl => ?_)
        refine lv_iinc (v := (x4 + 1)) (lv' := [(4, .int (x4 + 1)), (3, .int (x3 + 1)), (0, .ref (ad 0)), (1, .int x1), (2, .int x2)]) hx hb dX8_linesAt_53 hl (k := 4) rfl rfl (by decide) rfl (fun ls hl => ?_)
        refine lv_goto (tgt := 5) hx hb dX8_linesAt_56 (by decide) ?_
        exact ih x1 x2 (x3 + 1) (x4 + 1) H locs ls hP hS (lv_sub hl [2, 3, 4, 1, 0] rfl) hf
      rw [if_neg c4] at hf
      refine lv_aload_n hx hb dX8_linesAt_35 rfl (lv_at hl 0 rfl) ?_
      refine mg_0_9 hC hP tw_728 dX8_linesAt_36 ?_
      refine lv_iload hx hb dX8_linesAt_39 (lv_at hl 4 rfl) ?_
      obtain ⟨g5, hf⟩ := grd_some hf
      refine ml_2 hC hP g5 dX8_linesAt_41 ?_
      refine lv_iload_n hx hb dX8_linesAt_42 rfl (lv_at hl 2 rfl) ?_
      refine lv_icmp_ne (tgt := 50) hx hb dX8_linesAt_43 (by decide) (fun c6 => ?_) (fun c6 => ?_)
      · rw [if_neg c6] at hf
        refine lv_iconst (v := 0) hx hb dX8_linesAt_50 (by decide) ?_
        refine lv_iadd hx hb dX8_linesAt_51 ?_
        refine lv_istore_n (lv' := [(3, .int (x3 + 0)), (0, .ref (ad 0)), (1, .int x1), (2, .int x2), (4, .int x4)]) hx hb dX8_linesAt_52 rfl hl (by decide) rfl (fun ls hl => ?_)
        refine lv_iinc (v := (x4 + 1)) (lv' := [(4, .int (x4 + 1)), (3, .int (x3 + 0)), (0, .ref (ad 0)), (1, .int x1), (2, .int x2)]) hx hb dX8_linesAt_53 hl (k := 4) rfl rfl (by decide) rfl (fun ls hl => ?_)
        refine lv_goto (tgt := 5) hx hb dX8_linesAt_56 (by decide) ?_
        exact ih x1 x2 (x3 + 0) (x4 + 1) H locs ls hP hS (lv_sub hl [2, 3, 4, 1, 0] rfl) hf
      rw [if_pos c6] at hf
      refine lv_iconst (v := 1) hx hb dX8_linesAt_46 (by decide) ?_
      refine lv_goto (tgt := 51) hx hb dX8_linesAt_47 (by decide) ?_
      refine lv_iadd hx hb dX8_linesAt_51 ?_
      refine lv_istore_n (lv' := [(3, .int (x3 + 1)), (0, .ref (ad 0)), (1, .int x1), (2, .int x2), (4, .int x4)]) hx hb dX8_linesAt_52 rfl hl (by decide) rfl (fun ls hl => ?_)
      refine lv_iinc (v := (x4 + 1)) (lv' := [(4, .int (x4 + 1)), (3, .int (x3 + 1)), (0, .ref (ad 0)), (1, .int x1), (2, .int x2)]) hx hb dX8_linesAt_53 hl (k := 4) rfl rfl (by decide) rfl (fun ls hl => ?_)
      refine lv_goto (tgt := 5) hx hb dX8_linesAt_56 (by decide) ?_
      exact ih x1 x2 (x3 + 1) (x4 + 1) H locs ls hP hS (lv_sub hl [2, 3, 4, 1, 0] rfl) hf
  obtain ⟨H, hH⟩ : ∃ z, z = s.heap := ⟨_, rfl⟩
  obtain ⟨locs, hlocs⟩ : ∃ z : List Loc, z = [] := ⟨_, rfl⟩
  rw [← hH] at hP
  have hS : va_S A s.heap H locs := by rw [hH, hlocs]; exact va_S.rf
  suffices hgoal : W p l e _ s m _ below meth c H locs 0 0 _ _ by rw [hH, hlocs] at hgoal; exact hgoal
  refine lv_iconst (v := 0) hx hb dX8_linesAt_0 (by decide) ?_
  refine lv_istore_n (lv' := [(3, .int 0), (0, .ref (ad 0)), (1, .int x1), (2, .int x2)]) hx hb dX8_linesAt_1 rfl hl (by decide) rfl (fun ls hl => ?_)
  refine lv_iconst (v := 0) hx hb dX8_linesAt_2 (by decide) ?_
  refine lv_istore (lv' := [(4, .int 0), (3, .int 0), (0, .ref (ad 0)), (1, .int x1), (2, .int x2)]) hx hb dX8_linesAt_3 hl (by decide) rfl (fun ls hl => ?_)
  exact hw_5 N x1 x2 0 0 H locs ls hP hS (lv_sub hl [2, 3, 4, 1, 0] rfl) hf
theorem dX8_measured_0 : decode cX8_measured 0 = .ok (.iconst 0, 1) := by decide +kernel
theorem dX8_measured_1 : decode cX8_measured 1 = .ok (.istore_n 3, 1) := by decide +kernel
theorem dX8_measured_2 : decode cX8_measured 2 = .ok (.iconst 0, 1) := by decide +kernel
theorem dX8_measured_3 : decode cX8_measured 3 = .ok (.istore 4, 2) := by decide +kernel
theorem dX8_measured_5 : decode cX8_measured 5 = .ok (.iload_n 2, 1) := by decide +kernel
theorem dX8_measured_6 : decode cX8_measured 6 = .ok (.tableswitch 294 0 4 #[34, 80, 123, 166, 248], 34) := by decide +kernel
theorem dX8_measured_40 : decode cX8_measured 40 = .ok (.iconst 0, 1) := by decide +kernel
theorem dX8_measured_41 : decode cX8_measured 41 = .ok (.istore 5, 2) := by decide +kernel
theorem dX8_measured_43 : decode cX8_measured 43 = .ok (.iload 5, 2) := by decide +kernel
theorem dX8_measured_45 : decode cX8_measured 45 = .ok (.aload_n 0, 1) := by decide +kernel
theorem dX8_measured_46 : decode cX8_measured 46 = .ok (.getfield 87, 3) := by decide +kernel
theorem dX8_measured_49 : decode cX8_measured 49 = .ok (.if_icmp .ge 34, 3) := by decide +kernel
theorem dX8_measured_52 : decode cX8_measured 52 = .ok (.iload 4, 2) := by decide +kernel
theorem dX8_measured_54 : decode cX8_measured 54 = .ok (.iload_n 1, 1) := by decide +kernel
theorem dX8_measured_55 : decode cX8_measured 55 = .ok (.iload 5, 2) := by decide +kernel
theorem dX8_measured_57 : decode cX8_measured 57 = .ok (.invokestatic 115, 3) := by decide +kernel
theorem dX8_measured_60 : decode cX8_measured 60 = .ok (.ifCond .eq 13, 3) := by decide +kernel
theorem dX8_measured_63 : decode cX8_measured 63 = .ok (.aload_n 0, 1) := by decide +kernel
theorem dX8_measured_64 : decode cX8_measured 64 = .ok (.getfield 32, 3) := by decide +kernel
theorem dX8_measured_67 : decode cX8_measured 67 = .ok (.iload 5, 2) := by decide +kernel
theorem dX8_measured_69 : decode cX8_measured 69 = .ok (.iaload, 1) := by decide +kernel
theorem dX8_measured_70 : decode cX8_measured 70 = .ok (.goto 4, 3) := by decide +kernel
theorem dX8_measured_73 : decode cX8_measured 73 = .ok (.iconst 0, 1) := by decide +kernel
theorem dX8_measured_74 : decode cX8_measured 74 = .ok (.iadd, 1) := by decide +kernel
theorem dX8_measured_75 : decode cX8_measured 75 = .ok (.istore 4, 2) := by decide +kernel
theorem dX8_measured_77 : decode cX8_measured 77 = .ok (.iinc 5 1, 3) := by decide +kernel
theorem dX8_measured_80 : decode cX8_measured 80 = .ok (.goto (-37), 3) := by decide +kernel
theorem dX8_measured_83 : decode cX8_measured 83 = .ok (.iload 4, 2) := by decide +kernel
theorem dX8_measured_85 : decode cX8_measured 85 = .ok (.ireturn, 1) := by decide +kernel
theorem dX8_measured_86 : decode cX8_measured 86 = .ok (.iconst 0, 1) := by decide +kernel
theorem dX8_measured_87 : decode cX8_measured 87 = .ok (.istore 5, 2) := by decide +kernel
theorem dX8_measured_89 : decode cX8_measured 89 = .ok (.iload 5, 2) := by decide +kernel
theorem dX8_measured_91 : decode cX8_measured 91 = .ok (.aload_n 0, 1) := by decide +kernel
theorem dX8_measured_92 : decode cX8_measured 92 = .ok (.getfield 7, 3) := by decide +kernel
theorem dX8_measured_95 : decode cX8_measured 95 = .ok (.if_icmp .ge 32, 3) := by decide +kernel
theorem dX8_measured_98 : decode cX8_measured 98 = .ok (.aload_n 0, 1) := by decide +kernel
theorem dX8_measured_99 : decode cX8_measured 99 = .ok (.iload_n 1, 1) := by decide +kernel
theorem dX8_measured_100 : decode cX8_measured 100 = .ok (.iload 5, 2) := by decide +kernel
theorem dX8_measured_102 : decode cX8_measured 102 = .ok (.invokevirtual 123, 3) := by decide +kernel
theorem dX8_measured_105 : decode cX8_measured 105 = .ok (.iload_n 3, 1) := by decide +kernel
theorem dX8_measured_106 : decode cX8_measured 106 = .ok (.if_icmp .le 13, 3) := by decide +kernel
theorem dX8_measured_109 : decode cX8_measured 109 = .ok (.aload_n 0, 1) := by decide +kernel
theorem dX8_measured_110 : decode cX8_measured 110 = .ok (.iload_n 1, 1) := by decide +kernel
theorem dX8_measured_111 : decode cX8_measured 111 = .ok (.iload 5, 2) := by decide +kernel
theorem dX8_measured_113 : decode cX8_measured 113 = .ok (.invokevirtual 123, 3) := by decide +kernel
theorem dX8_measured_116 : decode cX8_measured 116 = .ok (.goto 4, 3) := by decide +kernel
theorem dX8_measured_119 : decode cX8_measured 119 = .ok (.iload_n 3, 1) := by decide +kernel
theorem dX8_measured_120 : decode cX8_measured 120 = .ok (.istore_n 3, 1) := by decide +kernel
theorem dX8_measured_121 : decode cX8_measured 121 = .ok (.iinc 5 1, 3) := by decide +kernel
theorem dX8_measured_124 : decode cX8_measured 124 = .ok (.goto (-35), 3) := by decide +kernel
theorem dX8_measured_127 : decode cX8_measured 127 = .ok (.iload_n 3, 1) := by decide +kernel
theorem dX8_measured_128 : decode cX8_measured 128 = .ok (.ireturn, 1) := by decide +kernel
theorem dX8_measured_129 : decode cX8_measured 129 = .ok (.iconst 0, 1) := by decide +kernel
theorem dX8_measured_130 : decode cX8_measured 130 = .ok (.istore 5, 2) := by decide +kernel
theorem dX8_measured_132 : decode cX8_measured 132 = .ok (.iload 5, 2) := by decide +kernel
theorem dX8_measured_134 : decode cX8_measured 134 = .ok (.aload_n 0, 1) := by decide +kernel
theorem dX8_measured_135 : decode cX8_measured 135 = .ok (.getfield 7, 3) := by decide +kernel
theorem dX8_measured_138 : decode cX8_measured 138 = .ok (.if_icmp .ge 32, 3) := by decide +kernel
theorem dX8_measured_141 : decode cX8_measured 141 = .ok (.aload_n 0, 1) := by decide +kernel
theorem dX8_measured_142 : decode cX8_measured 142 = .ok (.getfield 48, 3) := by decide +kernel
theorem dX8_measured_145 : decode cX8_measured 145 = .ok (.iload 5, 2) := by decide +kernel
theorem dX8_measured_147 : decode cX8_measured 147 = .ok (.iaload, 1) := by decide +kernel
theorem dX8_measured_148 : decode cX8_measured 148 = .ok (.iload_n 3, 1) := by decide +kernel
theorem dX8_measured_149 : decode cX8_measured 149 = .ok (.if_icmp .le 13, 3) := by decide +kernel
theorem dX8_measured_152 : decode cX8_measured 152 = .ok (.aload_n 0, 1) := by decide +kernel
theorem dX8_measured_153 : decode cX8_measured 153 = .ok (.getfield 48, 3) := by decide +kernel
theorem dX8_measured_156 : decode cX8_measured 156 = .ok (.iload 5, 2) := by decide +kernel
theorem dX8_measured_158 : decode cX8_measured 158 = .ok (.iaload, 1) := by decide +kernel
theorem dX8_measured_159 : decode cX8_measured 159 = .ok (.goto 4, 3) := by decide +kernel
theorem dX8_measured_162 : decode cX8_measured 162 = .ok (.iload_n 3, 1) := by decide +kernel
theorem dX8_measured_163 : decode cX8_measured 163 = .ok (.istore_n 3, 1) := by decide +kernel
theorem dX8_measured_164 : decode cX8_measured 164 = .ok (.iinc 5 1, 3) := by decide +kernel
theorem dX8_measured_167 : decode cX8_measured 167 = .ok (.goto (-35), 3) := by decide +kernel
theorem dX8_measured_170 : decode cX8_measured 170 = .ok (.iload_n 3, 1) := by decide +kernel
theorem dX8_measured_171 : decode cX8_measured 171 = .ok (.ireturn, 1) := by decide +kernel
theorem dX8_measured_172 : decode cX8_measured 172 = .ok (.iconst 0, 1) := by decide +kernel
theorem dX8_measured_173 : decode cX8_measured 173 = .ok (.istore 5, 2) := by decide +kernel
theorem dX8_measured_175 : decode cX8_measured 175 = .ok (.iload 5, 2) := by decide +kernel
theorem dX8_measured_177 : decode cX8_measured 177 = .ok (.aload_n 0, 1) := by decide +kernel
theorem dX8_measured_178 : decode cX8_measured 178 = .ok (.getfield 87, 3) := by decide +kernel
theorem dX8_measured_181 : decode cX8_measured 181 = .ok (.if_icmp .ge 71, 3) := by decide +kernel
theorem dX8_measured_184 : decode cX8_measured 184 = .ok (.iconst 0, 1) := by decide +kernel
theorem dX8_measured_185 : decode cX8_measured 185 = .ok (.istore 4, 2) := by decide +kernel
theorem dX8_measured_187 : decode cX8_measured 187 = .ok (.iconst 0, 1) := by decide +kernel
theorem dX8_measured_188 : decode cX8_measured 188 = .ok (.istore 6, 2) := by decide +kernel
theorem dX8_measured_190 : decode cX8_measured 190 = .ok (.iload 6, 2) := by decide +kernel
theorem dX8_measured_192 : decode cX8_measured 192 = .ok (.aload_n 0, 1) := by decide +kernel
theorem dX8_measured_193 : decode cX8_measured 193 = .ok (.getfield 7, 3) := by decide +kernel
theorem dX8_measured_196 : decode cX8_measured 196 = .ok (.if_icmp .ge 37, 3) := by decide +kernel
theorem dX8_measured_199 : decode cX8_measured 199 = .ok (.iload 4, 2) := by decide +kernel
theorem dX8_measured_201 : decode cX8_measured 201 = .ok (.aload_n 0, 1) := by decide +kernel
theorem dX8_measured_202 : decode cX8_measured 202 = .ok (.getfield 54, 3) := by decide +kernel
theorem dX8_measured_205 : decode cX8_measured 205 = .ok (.iload 6, 2) := by decide +kernel
theorem dX8_measured_207 : decode cX8_measured 207 = .ok (.iaload, 1) := by decide +kernel
theorem dX8_measured_208 : decode cX8_measured 208 = .ok (.iload 5, 2) := by decide +kernel
theorem dX8_measured_210 : decode cX8_measured 210 = .ok (.if_icmp .ne 13, 3) := by decide +kernel
theorem dX8_measured_213 : decode cX8_measured 213 = .ok (.aload_n 0, 1) := by decide +kernel
theorem dX8_measured_214 : decode cX8_measured 214 = .ok (.getfield 45, 3) := by decide +kernel
theorem dX8_measured_217 : decode cX8_measured 217 = .ok (.iload 6, 2) := by decide +kernel
theorem dX8_measured_219 : decode cX8_measured 219 = .ok (.iaload, 1) := by decide +kernel
theorem dX8_measured_220 : decode cX8_measured 220 = .ok (.goto 4, 3) := by decide +kernel
theorem dX8_measured_223 : decode cX8_measured 223 = .ok (.iconst 0, 1) := by decide +kernel
theorem dX8_measured_224 : decode cX8_measured 224 = .ok (.iadd, 1) := by decide +kernel
theorem dX8_measured_225 : decode cX8_measured 225 = .ok (.istore 4, 2) := by decide +kernel
theorem dX8_measured_227 : decode cX8_measured 227 = .ok (.iinc 6 1, 3) := by decide +kernel
theorem dX8_measured_230 : decode cX8_measured 230 = .ok (.goto (-40), 3) := by decide +kernel
theorem dX8_measured_233 : decode cX8_measured 233 = .ok (.iload 4, 2) := by decide +kernel
theorem dX8_measured_235 : decode cX8_measured 235 = .ok (.iload_n 3, 1) := by decide +kernel
theorem dX8_measured_236 : decode cX8_measured 236 = .ok (.if_icmp .le 8, 3) := by decide +kernel
theorem dX8_measured_239 : decode cX8_measured 239 = .ok (.iload 4, 2) := by decide +kernel
theorem dX8_measured_241 : decode cX8_measured 241 = .ok (.goto 4, 3) := by decide +kernel
theorem dX8_measured_244 : decode cX8_measured 244 = .ok (.iload_n 3, 1) := by decide +kernel
theorem dX8_measured_245 : decode cX8_measured 245 = .ok (.istore_n 3, 1) := by decide +kernel
theorem dX8_measured_246 : decode cX8_measured 246 = .ok (.iinc 5 1, 3) := by decide +kernel
theorem dX8_measured_249 : decode cX8_measured 249 = .ok (.goto (-74), 3) := by decide +kernel
theorem dX8_measured_252 : decode cX8_measured 252 = .ok (.iload_n 3, 1) := by decide +kernel
theorem dX8_measured_253 : decode cX8_measured 253 = .ok (.ireturn, 1) := by decide +kernel
theorem dX8_measured_254 : decode cX8_measured 254 = .ok (.iconst 0, 1) := by decide +kernel
theorem dX8_measured_255 : decode cX8_measured 255 = .ok (.istore 5, 2) := by decide +kernel
theorem dX8_measured_257 : decode cX8_measured 257 = .ok (.iload 5, 2) := by decide +kernel
theorem dX8_measured_259 : decode cX8_measured 259 = .ok (.aload_n 0, 1) := by decide +kernel
theorem dX8_measured_260 : decode cX8_measured 260 = .ok (.getfield 87, 3) := by decide +kernel
theorem dX8_measured_263 : decode cX8_measured 263 = .ok (.if_icmp .ge 34, 3) := by decide +kernel
theorem dX8_measured_266 : decode cX8_measured 266 = .ok (.iload 4, 2) := by decide +kernel
theorem dX8_measured_268 : decode cX8_measured 268 = .ok (.iload_n 1, 1) := by decide +kernel
theorem dX8_measured_269 : decode cX8_measured 269 = .ok (.iload 5, 2) := by decide +kernel
theorem dX8_measured_271 : decode cX8_measured 271 = .ok (.invokestatic 115, 3) := by decide +kernel
theorem dX8_measured_274 : decode cX8_measured 274 = .ok (.ifCond .eq 13, 3) := by decide +kernel
theorem dX8_measured_277 : decode cX8_measured 277 = .ok (.aload_n 0, 1) := by decide +kernel
theorem dX8_measured_278 : decode cX8_measured 278 = .ok (.getfield 35, 3) := by decide +kernel
theorem dX8_measured_281 : decode cX8_measured 281 = .ok (.iload 5, 2) := by decide +kernel
theorem dX8_measured_283 : decode cX8_measured 283 = .ok (.iaload, 1) := by decide +kernel
theorem dX8_measured_284 : decode cX8_measured 284 = .ok (.goto 4, 3) := by decide +kernel
theorem dX8_measured_287 : decode cX8_measured 287 = .ok (.iconst 0, 1) := by decide +kernel
theorem dX8_measured_288 : decode cX8_measured 288 = .ok (.iadd, 1) := by decide +kernel
theorem dX8_measured_289 : decode cX8_measured 289 = .ok (.istore 4, 2) := by decide +kernel
theorem dX8_measured_291 : decode cX8_measured 291 = .ok (.iinc 5 1, 3) := by decide +kernel
theorem dX8_measured_294 : decode cX8_measured 294 = .ok (.goto (-37), 3) := by decide +kernel
theorem dX8_measured_297 : decode cX8_measured 297 = .ok (.iload 4, 2) := by decide +kernel
theorem dX8_measured_299 : decode cX8_measured 299 = .ok (.ireturn, 1) := by decide +kernel
theorem dX8_measured_300 : decode cX8_measured 300 = .ok (.iconst 0, 1) := by decide +kernel
theorem dX8_measured_301 : decode cX8_measured 301 = .ok (.istore 5, 2) := by decide +kernel
theorem dX8_measured_303 : decode cX8_measured 303 = .ok (.iload 5, 2) := by decide +kernel
theorem dX8_measured_305 : decode cX8_measured 305 = .ok (.aload_n 0, 1) := by decide +kernel
theorem dX8_measured_306 : decode cX8_measured 306 = .ok (.getfield 7, 3) := by decide +kernel
theorem dX8_measured_309 : decode cX8_measured 309 = .ok (.if_icmp .ge 32, 3) := by decide +kernel
theorem dX8_measured_312 : decode cX8_measured 312 = .ok (.aload_n 0, 1) := by decide +kernel
theorem dX8_measured_313 : decode cX8_measured 313 = .ok (.getfield 51, 3) := by decide +kernel
theorem dX8_measured_316 : decode cX8_measured 316 = .ok (.iload 5, 2) := by decide +kernel
theorem dX8_measured_318 : decode cX8_measured 318 = .ok (.iaload, 1) := by decide +kernel
theorem dX8_measured_319 : decode cX8_measured 319 = .ok (.iload_n 3, 1) := by decide +kernel
theorem dX8_measured_320 : decode cX8_measured 320 = .ok (.if_icmp .le 13, 3) := by decide +kernel
theorem dX8_measured_323 : decode cX8_measured 323 = .ok (.aload_n 0, 1) := by decide +kernel
theorem dX8_measured_324 : decode cX8_measured 324 = .ok (.getfield 51, 3) := by decide +kernel
theorem dX8_measured_327 : decode cX8_measured 327 = .ok (.iload 5, 2) := by decide +kernel
theorem dX8_measured_329 : decode cX8_measured 329 = .ok (.iaload, 1) := by decide +kernel
theorem dX8_measured_330 : decode cX8_measured 330 = .ok (.goto 4, 3) := by decide +kernel
theorem dX8_measured_333 : decode cX8_measured 333 = .ok (.iload_n 3, 1) := by decide +kernel
theorem dX8_measured_334 : decode cX8_measured 334 = .ok (.istore_n 3, 1) := by decide +kernel
theorem dX8_measured_335 : decode cX8_measured 335 = .ok (.iinc 5 1, 3) := by decide +kernel
theorem dX8_measured_338 : decode cX8_measured 338 = .ok (.goto (-35), 3) := by decide +kernel
theorem dX8_measured_341 : decode cX8_measured 341 = .ok (.iload_n 3, 1) := by decide +kernel
theorem dX8_measured_342 : decode cX8_measured 342 = .ok (.ireturn, 1) := by decide +kernel
def M_measured_89 (N : Nat) : Nat → Int32 → Int32 → Int32 → St → Option (Int32)
  | 0, _, _, _, _ => none
  | n + 1, x1, x3, x5, σ0 => if (σ0.1 0) ≤ x5 then some x3 else bnd (M_linesAt N x1 x5 σ0) (fun y2 => if y2 ≤ x3 then M_measured_89 N n x1 x3 (x5 + 1) σ0 else bnd (M_linesAt N x1 x5 σ0) (fun y4 => M_measured_89 N n x1 y4 (x5 + 1) σ0))
theorem M_measured_89_s (N : Nat) (n : Nat) (x1 : Int32) (x3 : Int32) (x5 : Int32) (σ0 : St) : M_measured_89 N (n + 1) x1 x3 x5 σ0 = if (σ0.1 0) ≤ x5 then some x3 else bnd (M_linesAt N x1 x5 σ0) (fun y2 => if y2 ≤ x3 then M_measured_89 N n x1 x3 (x5 + 1) σ0 else bnd (M_linesAt N x1 x5 σ0) (fun y4 => M_measured_89 N n x1 y4 (x5 + 1) σ0)) := rfl
def M_measured_303 (N : Nat) : Nat → Int32 → Int32 → St → Option (Int32)
  | 0, _, _, _ => none
  | n + 1, x3, x5, σ0 => if (σ0.1 0) ≤ x5 then some x3 else grd (inb x5 8) (if (σ0.2.1 8 (x5).toNatClampNeg) ≤ x3 then M_measured_303 N n x3 (x5 + 1) σ0 else grd (inb x5 8) (lt ((σ0.2.1 8 (x5).toNatClampNeg)) (fun y9 => M_measured_303 N n y9 (x5 + 1) σ0)))
theorem M_measured_303_s (N : Nat) (n : Nat) (x3 : Int32) (x5 : Int32) (σ0 : St) : M_measured_303 N (n + 1) x3 x5 σ0 = if (σ0.1 0) ≤ x5 then some x3 else grd (inb x5 8) (if (σ0.2.1 8 (x5).toNatClampNeg) ≤ x3 then M_measured_303 N n x3 (x5 + 1) σ0 else grd (inb x5 8) (lt ((σ0.2.1 8 (x5).toNatClampNeg)) (fun y9 => M_measured_303 N n y9 (x5 + 1) σ0))) := rfl
def M_measured_190 (N : Nat) (k_233 : Int32 → Int32 → Int32 → St → Option (Int32)) : Nat → Int32 → Int32 → Int32 → Int32 → St → Option (Int32)
  | 0, _, _, _, _, _ => none
  | n + 1, x3, x4, x5, x6, σ0 => if (σ0.1 0) ≤ x6 then k_233 x3 x4 x5 σ0 else grd (inb x6 8) (if (σ0.2.1 9 (x6).toNatClampNeg) = x5 then grd (inb x6 8) (lt ((x4 + (σ0.2.1 6 (x6).toNatClampNeg))) (fun y14 => M_measured_190 N k_233 n x3 y14 x5 (x6 + 1) σ0)) else M_measured_190 N k_233 n x3 (x4 + 0) x5 (x6 + 1) σ0)
theorem M_measured_190_s (N : Nat) (k_233 : Int32 → Int32 → Int32 → St → Option (Int32)) (n : Nat) (x3 : Int32) (x4 : Int32) (x5 : Int32) (x6 : Int32) (σ0 : St) : M_measured_190 N k_233 (n + 1) x3 x4 x5 x6 σ0 = if (σ0.1 0) ≤ x6 then k_233 x3 x4 x5 σ0 else grd (inb x6 8) (if (σ0.2.1 9 (x6).toNatClampNeg) = x5 then grd (inb x6 8) (lt ((x4 + (σ0.2.1 6 (x6).toNatClampNeg))) (fun y14 => M_measured_190 N k_233 n x3 y14 x5 (x6 + 1) σ0)) else M_measured_190 N k_233 n x3 (x4 + 0) x5 (x6 + 1) σ0) := rfl
def M_measured_233 (N : Nat) (k_175 : Int32 → Int32 → St → Option (Int32)) (x3 : Int32) (x4 : Int32) (x5 : Int32) (σ0 : St) : Option (Int32) := if x4 ≤ x3 then k_175 x3 (x5 + 1) σ0 else k_175 x4 (x5 + 1) σ0
def M_measured_175 (N : Nat) : Nat → Int32 → Int32 → St → Option (Int32)
  | 0, _, _, _ => none
  | n + 1, x3, x5, σ0 => if (σ0.1 1) ≤ x5 then some x3 else M_measured_190 N (M_measured_233 N (M_measured_175 N n)) N x3 0 x5 0 σ0
theorem M_measured_175_s (N : Nat) (n : Nat) (x3 : Int32) (x5 : Int32) (σ0 : St) : M_measured_175 N (n + 1) x3 x5 σ0 = if (σ0.1 1) ≤ x5 then some x3 else M_measured_190 N (M_measured_233 N (M_measured_175 N n)) N x3 0 x5 0 σ0 := rfl
def M_measured_43 (N : Nat) : Nat → Int32 → Int32 → Int32 → St → Option (Int32)
  | 0, _, _, _, _ => none
  | n + 1, x1, x4, x5, σ0 => if (σ0.1 1) ≤ x5 then some x4 else if (M_has x1 x5) = 0 then M_measured_43 N n x1 (x4 + 0) (x5 + 1) σ0 else grd (inb x5 14) (lt ((x4 + (σ0.2.1 2 (x5).toNatClampNeg))) (fun y20 => M_measured_43 N n x1 y20 (x5 + 1) σ0))
theorem M_measured_43_s (N : Nat) (n : Nat) (x1 : Int32) (x4 : Int32) (x5 : Int32) (σ0 : St) : M_measured_43 N (n + 1) x1 x4 x5 σ0 = if (σ0.1 1) ≤ x5 then some x4 else if (M_has x1 x5) = 0 then M_measured_43 N n x1 (x4 + 0) (x5 + 1) σ0 else grd (inb x5 14) (lt ((x4 + (σ0.2.1 2 (x5).toNatClampNeg))) (fun y20 => M_measured_43 N n x1 y20 (x5 + 1) σ0)) := rfl
def M_measured_132 (N : Nat) : Nat → Int32 → Int32 → St → Option (Int32)
  | 0, _, _, _ => none
  | n + 1, x3, x5, σ0 => if (σ0.1 0) ≤ x5 then some x3 else grd (inb x5 8) (if (σ0.2.1 7 (x5).toNatClampNeg) ≤ x3 then M_measured_132 N n x3 (x5 + 1) σ0 else grd (inb x5 8) (lt ((σ0.2.1 7 (x5).toNatClampNeg)) (fun y25 => M_measured_132 N n y25 (x5 + 1) σ0)))
theorem M_measured_132_s (N : Nat) (n : Nat) (x3 : Int32) (x5 : Int32) (σ0 : St) : M_measured_132 N (n + 1) x3 x5 σ0 = if (σ0.1 0) ≤ x5 then some x3 else grd (inb x5 8) (if (σ0.2.1 7 (x5).toNatClampNeg) ≤ x3 then M_measured_132 N n x3 (x5 + 1) σ0 else grd (inb x5 8) (lt ((σ0.2.1 7 (x5).toNatClampNeg)) (fun y25 => M_measured_132 N n y25 (x5 + 1) σ0))) := rfl
def M_measured_257 (N : Nat) : Nat → Int32 → Int32 → Int32 → St → Option (Int32)
  | 0, _, _, _, _ => none
  | n + 1, x1, x4, x5, σ0 => if (σ0.1 1) ≤ x5 then some x4 else if (M_has x1 x5) = 0 then M_measured_257 N n x1 (x4 + 0) (x5 + 1) σ0 else grd (inb x5 14) (lt ((x4 + (σ0.2.1 3 (x5).toNatClampNeg))) (fun y29 => M_measured_257 N n x1 y29 (x5 + 1) σ0))
theorem M_measured_257_s (N : Nat) (n : Nat) (x1 : Int32) (x4 : Int32) (x5 : Int32) (σ0 : St) : M_measured_257 N (n + 1) x1 x4 x5 σ0 = if (σ0.1 1) ≤ x5 then some x4 else if (M_has x1 x5) = 0 then M_measured_257 N n x1 (x4 + 0) (x5 + 1) σ0 else grd (inb x5 14) (lt ((x4 + (σ0.2.1 3 (x5).toNatClampNeg))) (fun y29 => M_measured_257 N n x1 y29 (x5 + 1) σ0)) := rfl
def M_measured (N : Nat) (x1 : Int32) (x2 : Int32) (σ0 : St) : Option (Int32) := if x2 = 0 then M_measured_43 N N x1 0 0 σ0 else (if x2 = 1 then M_measured_89 N N x1 0 0 σ0 else (if x2 = 2 then M_measured_132 N N 0 0 σ0 else (if x2 = 3 then M_measured_175 N N 0 0 σ0 else (if x2 = 4 then M_measured_257 N N x1 0 0 σ0 else (M_measured_303 N N 0 0 σ0)))))
abbrev rm_M_measured : Room := { frames := 2, cells := 0, slots := 0, locals := 45 }
set_option maxHeartbeats 4000000 in
set_option maxRecDepth 100000 in
theorem k_M_measured (l : Launch) (ad : Nat → Nat) (cI cJ cZ : ClassId) {N : Nat} {x1 : Int32} {x2 : Int32} {σ0 : St} {r : Int32} (hf : M_measured N x1 x2 σ0 = some r) : CtI l yX8_measured (gws (.code yX8_measured cX8_measured 7 (some .int))) (rm_M_measured) (ty3 cI cJ cZ) (mw ad cI cZ) [.ref (ad 0), .int x1, .int x2] σ0 r σ0 := by
  refine CtI.of (by decide) (mw_ok ad cI cZ) (Nat.le_of_ble_eq_true rfl) ?_
  generalize hav : ([.ref (ad 0), .int x1, .int x2] : List Value) = av
  intro p e s m below meth c D A hC ls hl hP hS
  obtain ⟨hx, hb, hr, hlocks, hml, hown, hts, hK, hN, hD, hA⟩ := id hC
  rw [← hav] at hl
  have hl : lv_has ls 7 [(0, .ref (ad 0)), (1, .int x1), (2, .int x2)] := hl
  unfold M_measured at hf
  have hw_89 : ∀ (n : Nat), ∀ (x1 : Int32) (x3 : Int32) (x5 : Int32) (H : Heap) (locs : List Loc) (ls : Array Slot), va_P D vwCl ((mw ad cI cZ) σ0) H → va_S A s.heap H locs → lv_has ls 7 [(0, .ref (ad 0)), (1, .int x1), (3, .int x3), (5, .int x5)] → M_measured_89 N n x1 x3 x5 σ0 = some r → W p l e (rm_M_measured) s m av.toArray below meth c H locs 0 0 (QI below av.toArray s D A (mw ad cI cZ) r σ0) (F0 m 89 ls []) := by
    intro n
    induction n with
    | zero =>
      intro x1 x3 x5 H locs ls hP hS hl hf
      cases hf
    | succ n ih =>
      intro x1 x3 x5 H locs ls hP hS hl hf
      rw [M_measured_89_s] at hf
      refine lv_iload hx hb dX8_measured_89 (lv_at hl 3 rfl) ?_
      refine lv_aload_n hx hb dX8_measured_91 rfl (lv_at hl 0 rfl) ?_
      refine mg_0_0 hC hP tw_719 dX8_measured_92 ?_
      refine lv_icmp_ge (tgt := 127) hx hb dX8_measured_95 (by decide) (fun c1 => ?_) (fun c1 => ?_)
      · rw [if_pos c1] at hf
        refine lv_iload_n hx hb dX8_measured_127 rfl (lv_at hl 2 rfl) ?_
        have h1 := Option.some.inj hf
        exact retI hx hb hr hlocks hP hS h1 rfl dX8_measured_128
      rw [if_neg c1] at hf
      refine lv_aload_n hx hb dX8_measured_98 rfl (lv_at hl 0 rfl) ?_
      refine lv_iload_n hx hb dX8_measured_99 rfl (lv_at hl 1 rfl) ?_
      refine lv_iload hx hb dX8_measured_100 (lv_at hl 3 rfl) ?_
      obtain ⟨y2, hcy2, hf⟩ := bnd_some hf
      refine cVi (As := [.int x1, .int x5]) (rest := []) hC (k_M_linesAt l ad cI cJ cZ hcy2) yy_X8_linesAt tw_896 rfl rfl ⟨by decide, by decide⟩ hP hS (q0 := 0) (ci := 8) rfl rfl (mwa_0 ..) rfl hl.1 rfl (Nat.le_of_ble_eq_true rfl) dX8_measured_102 (fun H locs hP hS => ?_)
      refine lv_iload_n hx hb dX8_measured_105 rfl (lv_at hl 2 rfl) ?_
      refine lv_icmp_le (tgt := 119) hx hb dX8_measured_106 (by decide) (fun c3 => ?_) (fun c3 => ?_)
      · rw [if_pos c3] at hf
        refine lv_iload_n hx hb dX8_measured_119 rfl (lv_at hl 2 rfl) ?_
        refine lv_istore_n (lv' := [(3, .int x3), (0, .ref (ad 0)), (1, .int x1), (5, .int x5)]) hx hb dX8_measured_120 rfl hl (by decide) rfl (fun ls hl => ?_)
        refine lv_iinc (v := (x5 + 1)) (lv' := [(5, .int (x5 + 1)), (3, .int x3), (0, .ref (ad 0)), (1, .int x1)]) hx hb dX8_measured_121 hl (k := 3) rfl rfl (by decide) rfl (fun ls hl => ?_)
        refine lv_goto (tgt := 89) hx hb dX8_measured_124 (by decide) ?_
        exact ih x1 x3 (x5 + 1) H locs ls hP hS (lv_sub hl [2, 3, 1, 0] rfl) hf
      rw [if_neg c3] at hf
      refine lv_aload_n hx hb dX8_measured_109 rfl (lv_at hl 0 rfl) ?_
      refine lv_iload_n hx hb dX8_measured_110 rfl (lv_at hl 1 rfl) ?_
      refine lv_iload hx hb dX8_measured_111 (lv_at hl 3 rfl) ?_
      obtain ⟨y4, hcy4, hf⟩ := bnd_some hf
      refine cVi (As := [.int x1, .int x5]) (rest := []) hC (k_M_linesAt l ad cI cJ cZ hcy4) yy_X8_linesAt tw_896 rfl rfl ⟨by decide, by decide⟩ hP hS (q0 := 0) (ci := 8) rfl rfl (mwa_0 ..) rfl hl.1 rfl (Nat.le_of_ble_eq_true rfl) dX8_measured_113 (fun H locs hP hS => ?_)
      refine lv_goto (tgt := 120) hx hb dX8_measured_116 (by decide) ?_
      refine lv_istore_n (lv' := [(3, .int y4), (0, .ref (ad 0)), (1, .int x1), (5, .int x5)]) hx hb dX8_measured_120 rfl hl (by decide) rfl (fun ls hl => ?_)
      refine lv_iinc (v := (x5 + 1)) (lv' := [(5, .int (x5 + 1)), (3, .int y4), (0, .ref (ad 0)), (1, .int x1)]) hx hb dX8_measured_121 hl (k := 3) rfl rfl (by decide) rfl (fun ls hl => ?_)
      refine lv_goto (tgt := 89) hx hb dX8_measured_124 (by decide) ?_
      exact ih x1 y4 (x5 + 1) H locs ls hP hS (lv_sub hl [2, 3, 1, 0] rfl) hf
  have hw_303 : ∀ (n : Nat), ∀ (x3 : Int32) (x5 : Int32) (H : Heap) (locs : List Loc) (ls : Array Slot), va_P D vwCl ((mw ad cI cZ) σ0) H → va_S A s.heap H locs → lv_has ls 7 [(0, .ref (ad 0)), (3, .int x3), (5, .int x5)] → M_measured_303 N n x3 x5 σ0 = some r → W p l e (rm_M_measured) s m av.toArray below meth c H locs 0 0 (QI below av.toArray s D A (mw ad cI cZ) r σ0) (F0 m 303 ls []) := by
    intro n
    induction n with
    | zero =>
      intro x3 x5 H locs ls hP hS hl hf
      cases hf
    | succ n ih =>
      intro x3 x5 H locs ls hP hS hl hf
      rw [M_measured_303_s] at hf
      refine lv_iload hx hb dX8_measured_303 (lv_at hl 2 rfl) ?_
      refine lv_aload_n hx hb dX8_measured_305 rfl (lv_at hl 0 rfl) ?_
      refine mg_0_0 hC hP tw_719 dX8_measured_306 ?_
      refine lv_icmp_ge (tgt := 341) hx hb dX8_measured_309 (by decide) (fun c5 => ?_) (fun c5 => ?_)
      · rw [if_pos c5] at hf
        refine lv_iload_n hx hb dX8_measured_341 rfl (lv_at hl 1 rfl) ?_
        have h1 := Option.some.inj hf
        exact retI hx hb hr hlocks hP hS h1 rfl dX8_measured_342
      rw [if_neg c5] at hf
      refine lv_aload_n hx hb dX8_measured_312 rfl (lv_at hl 0 rfl) ?_
      refine mg_0_16 hC hP tw_735 dX8_measured_313 ?_
      refine lv_iload hx hb dX8_measured_316 (lv_at hl 2 rfl) ?_
      obtain ⟨g6, hf⟩ := grd_some hf
      refine ml_9 hC hP g6 dX8_measured_318 ?_
      refine lv_iload_n hx hb dX8_measured_319 rfl (lv_at hl 1 rfl) ?_
      refine lv_icmp_le (tgt := 333) hx hb dX8_measured_320 (by decide) (fun c7 => ?_) (fun c7 => ?_)
      · rw [if_pos c7] at hf
        refine lv_iload_n hx hb dX8_measured_333 rfl (lv_at hl 1 rfl) ?_
        refine lv_istore_n (lv' := [(3, .int x3), (0, .ref (ad 0)), (5, .int x5)]) hx hb dX8_measured_334 rfl hl (by decide) rfl (fun ls hl => ?_)
        refine lv_iinc (v := (x5 + 1)) (lv' := [(5, .int (x5 + 1)), (3, .int x3), (0, .ref (ad 0))]) hx hb dX8_measured_335 hl (k := 2) rfl rfl (by decide) rfl (fun ls hl => ?_)
        refine lv_goto (tgt := 303) hx hb dX8_measured_338 (by decide) ?_
        exact ih x3 (x5 + 1) H locs ls hP hS (lv_sub hl [2, 1, 0] rfl) hf
      rw [if_neg c7] at hf
      refine lv_aload_n hx hb dX8_measured_323 rfl (lv_at hl 0 rfl) ?_
      refine mg_0_16 hC hP tw_735 dX8_measured_324 ?_
      refine lv_iload hx hb dX8_measured_327 (lv_at hl 2 rfl) ?_
      obtain ⟨g8, hf⟩ := grd_some hf
      refine ml_9 hC hP g8 dX8_measured_329 ?_
      refine lv_goto (tgt := 334) hx hb dX8_measured_330 (by decide) ?_
      obtain ⟨y9, ey9, hf⟩ := lt_e hf
      rw [← ey9]
      refine lv_istore_n (lv' := [(3, .int y9), (0, .ref (ad 0)), (5, .int x5)]) hx hb dX8_measured_334 rfl hl (by decide) rfl (fun ls hl => ?_)
      refine lv_iinc (v := (x5 + 1)) (lv' := [(5, .int (x5 + 1)), (3, .int y9), (0, .ref (ad 0))]) hx hb dX8_measured_335 hl (k := 2) rfl rfl (by decide) rfl (fun ls hl => ?_)
      refine lv_goto (tgt := 303) hx hb dX8_measured_338 (by decide) ?_
      exact ih y9 (x5 + 1) H locs ls hP hS (lv_sub hl [2, 1, 0] rfl) hf
  have hw_190 : ∀ (k_233 : Int32 → Int32 → Int32 → St → Option (Int32)) (hk_233 : ∀ (x3 : Int32) (x4 : Int32) (x5 : Int32) (H : Heap) (locs : List Loc) (ls : Array Slot), va_P D vwCl ((mw ad cI cZ) σ0) H → va_S A s.heap H locs → lv_has ls 7 [(0, .ref (ad 0)), (3, .int x3), (4, .int x4), (5, .int x5)] → k_233 x3 x4 x5 σ0 = some r → W p l e (rm_M_measured) s m av.toArray below meth c H locs 0 0 (QI below av.toArray s D A (mw ad cI cZ) r σ0) (F0 m 233 ls [])), ∀ (n : Nat), ∀ (x3 : Int32) (x4 : Int32) (x5 : Int32) (x6 : Int32) (H : Heap) (locs : List Loc) (ls : Array Slot), va_P D vwCl ((mw ad cI cZ) σ0) H → va_S A s.heap H locs → lv_has ls 7 [(0, .ref (ad 0)), (3, .int x3), (4, .int x4), (5, .int x5), (6, .int x6)] → M_measured_190 N k_233 n x3 x4 x5 x6 σ0 = some r → W p l e (rm_M_measured) s m av.toArray below meth c H locs 0 0 (QI below av.toArray s D A (mw ad cI cZ) r σ0) (F0 m 190 ls []) := by
    intro k_233 hk_233
    intro n
    induction n with
    | zero =>
      intro x3 x4 x5 x6 H locs ls hP hS hl hf
      cases hf
    | succ n ih =>
      intro x3 x4 x5 x6 H locs ls hP hS hl hf
      rw [M_measured_190_s] at hf
      refine lv_iload hx hb dX8_measured_190 (lv_at hl 4 rfl) ?_
      refine lv_aload_n hx hb dX8_measured_192 rfl (lv_at hl 0 rfl) ?_
      refine mg_0_0 hC hP tw_719 dX8_measured_193 ?_
      refine lv_icmp_ge (tgt := 233) hx hb dX8_measured_196 (by decide) (fun c10 => ?_) (fun c10 => ?_)
      · rw [if_pos c10] at hf
        exact hk_233 x3 x4 x5 H locs ls hP hS (lv_sub hl [0, 1, 2, 3] rfl) hf
      rw [if_neg c10] at hf
      refine lv_iload hx hb dX8_measured_199 (lv_at hl 2 rfl) ?_
      refine lv_aload_n hx hb dX8_measured_201 rfl (lv_at hl 0 rfl) ?_
      refine mg_0_17 hC hP tw_736 dX8_measured_202 ?_
      refine lv_iload hx hb dX8_measured_205 (lv_at hl 4 rfl) ?_
      obtain ⟨g11, hf⟩ := grd_some hf
      refine ml_10 hC hP g11 dX8_measured_207 ?_
      refine lv_iload hx hb dX8_measured_208 (lv_at hl 3 rfl) ?_
      refine lv_icmp_ne (tgt := 223) hx hb dX8_measured_210 (by decide) (fun c12 => ?_) (fun c12 => ?_)
      · rw [if_neg c12] at hf
        refine lv_iconst (v := 0) hx hb dX8_measured_223 (by decide) ?_
        refine lv_iadd hx hb dX8_measured_224 ?_
        refine lv_istore (lv' := [(4, .int (x4 + 0)), (0, .ref (ad 0)), (3, .int x3), (5, .int x5), (6, .int x6)]) hx hb dX8_measured_225 hl (by decide) rfl (fun ls hl => ?_)
        refine lv_iinc (v := (x6 + 1)) (lv' := [(6, .int (x6 + 1)), (4, .int (x4 + 0)), (0, .ref (ad 0)), (3, .int x3), (5, .int x5)]) hx hb dX8_measured_227 hl (k := 4) rfl rfl (by decide) rfl (fun ls hl => ?_)
        refine lv_goto (tgt := 190) hx hb dX8_measured_230 (by decide) ?_
        exact ih x3 (x4 + 0) x5 (x6 + 1) H locs ls hP hS (lv_sub hl [2, 3, 1, 4, 0] rfl) hf
      rw [if_pos c12] at hf
      refine lv_aload_n hx hb dX8_measured_213 rfl (lv_at hl 0 rfl) ?_
      refine mg_0_14 hC hP tw_733 dX8_measured_214 ?_
      refine lv_iload hx hb dX8_measured_217 (lv_at hl 4 rfl) ?_
      obtain ⟨g13, hf⟩ := grd_some hf
      refine ml_7 hC hP g13 dX8_measured_219 ?_
      refine lv_goto (tgt := 224) hx hb dX8_measured_220 (by decide) ?_
      refine lv_iadd hx hb dX8_measured_224 ?_
      obtain ⟨y14, ey14, hf⟩ := lt_e hf
      rw [← ey14]
      refine lv_istore (lv' := [(4, .int y14), (0, .ref (ad 0)), (3, .int x3), (5, .int x5), (6, .int x6)]) hx hb dX8_measured_225 hl (by decide) rfl (fun ls hl => ?_)
      refine lv_iinc (v := (x6 + 1)) (lv' := [(6, .int (x6 + 1)), (4, .int y14), (0, .ref (ad 0)), (3, .int x3), (5, .int x5)]) hx hb dX8_measured_227 hl (k := 4) rfl rfl (by decide) rfl (fun ls hl => ?_)
      refine lv_goto (tgt := 190) hx hb dX8_measured_230 (by decide) ?_
      exact ih x3 y14 x5 (x6 + 1) H locs ls hP hS (lv_sub hl [2, 3, 1, 4, 0] rfl) hf
  have hw_233 : ∀ (k_175 : Int32 → Int32 → St → Option (Int32)) (hk_175 : ∀ (x3 : Int32) (x5 : Int32) (H : Heap) (locs : List Loc) (ls : Array Slot), va_P D vwCl ((mw ad cI cZ) σ0) H → va_S A s.heap H locs → lv_has ls 7 [(0, .ref (ad 0)), (3, .int x3), (5, .int x5)] → k_175 x3 x5 σ0 = some r → W p l e (rm_M_measured) s m av.toArray below meth c H locs 0 0 (QI below av.toArray s D A (mw ad cI cZ) r σ0) (F0 m 175 ls [])), ∀ (x3 : Int32) (x4 : Int32) (x5 : Int32) (H : Heap) (locs : List Loc) (ls : Array Slot), va_P D vwCl ((mw ad cI cZ) σ0) H → va_S A s.heap H locs → lv_has ls 7 [(0, .ref (ad 0)), (3, .int x3), (4, .int x4), (5, .int x5)] → M_measured_233 N k_175 x3 x4 x5 σ0 = some r → W p l e (rm_M_measured) s m av.toArray below meth c H locs 0 0 (QI below av.toArray s D A (mw ad cI cZ) r σ0) (F0 m 233 ls []) := by
    intro k_175 hk_175 x3 x4 x5 H locs ls hP hS hl hf
    unfold M_measured_233 at hf
    refine lv_iload hx hb dX8_measured_233 (lv_at hl 2 rfl) ?_
    refine lv_iload_n hx hb dX8_measured_235 rfl (lv_at hl 1 rfl) ?_
    refine lv_icmp_le (tgt := 244) hx hb dX8_measured_236 (by decide) (fun c15 => ?_) (fun c15 => ?_)
    · rw [if_pos c15] at hf
      refine lv_iload_n hx hb dX8_measured_244 rfl (lv_at hl 1 rfl) ?_
      refine lv_istore_n (lv' := [(3, .int x3), (0, .ref (ad 0)), (4, .int x4), (5, .int x5)]) hx hb dX8_measured_245 rfl hl (by decide) rfl (fun ls hl => ?_)
      refine lv_iinc (v := (x5 + 1)) (lv' := [(5, .int (x5 + 1)), (3, .int x3), (0, .ref (ad 0)), (4, .int x4)]) hx hb dX8_measured_246 hl (k := 3) rfl rfl (by decide) rfl (fun ls hl => ?_)
      refine lv_goto (tgt := 175) hx hb dX8_measured_249 (by decide) ?_
      exact hk_175 x3 (x5 + 1) H locs ls hP hS (lv_sub hl [2, 1, 0] rfl) hf
    rw [if_neg c15] at hf
    refine lv_iload hx hb dX8_measured_239 (lv_at hl 2 rfl) ?_
    refine lv_goto (tgt := 245) hx hb dX8_measured_241 (by decide) ?_
    refine lv_istore_n (lv' := [(3, .int x4), (0, .ref (ad 0)), (4, .int x4), (5, .int x5)]) hx hb dX8_measured_245 rfl hl (by decide) rfl (fun ls hl => ?_)
    refine lv_iinc (v := (x5 + 1)) (lv' := [(5, .int (x5 + 1)), (3, .int x4), (0, .ref (ad 0)), (4, .int x4)]) hx hb dX8_measured_246 hl (k := 3) rfl rfl (by decide) rfl (fun ls hl => ?_)
    refine lv_goto (tgt := 175) hx hb dX8_measured_249 (by decide) ?_
    exact hk_175 x4 (x5 + 1) H locs ls hP hS (lv_sub hl [2, 1, 0] rfl) hf
  have hw_175 : ∀ (n : Nat), ∀ (x3 : Int32) (x5 : Int32) (H : Heap) (locs : List Loc) (ls : Array Slot), va_P D vwCl ((mw ad cI cZ) σ0) H → va_S A s.heap H locs → lv_has ls 7 [(0, .ref (ad 0)), (3, .int x3), (5, .int x5)] → M_measured_175 N n x3 x5 σ0 = some r → W p l e (rm_M_measured) s m av.toArray below meth c H locs 0 0 (QI below av.toArray s D A (mw ad cI cZ) r σ0) (F0 m 175 ls []) := by
    intro n
    induction n with
    | zero =>
      intro x3 x5 H locs ls hP hS hl hf
      cases hf
    | succ n ih =>
      intro x3 x5 H locs ls hP hS hl hf
      rw [M_measured_175_s] at hf
      refine lv_iload hx hb dX8_measured_175 (lv_at hl 2 rfl) ?_
      refine lv_aload_n hx hb dX8_measured_177 rfl (lv_at hl 0 rfl) ?_
      refine mg_0_1 hC hP tw_720 dX8_measured_178 ?_
      refine lv_icmp_ge (tgt := 252) hx hb dX8_measured_181 (by decide) (fun c16 => ?_) (fun c16 => ?_)
      · rw [if_pos c16] at hf
        refine lv_iload_n hx hb dX8_measured_252 rfl (lv_at hl 1 rfl) ?_
        have h1 := Option.some.inj hf
        exact retI hx hb hr hlocks hP hS h1 rfl dX8_measured_253
      rw [if_neg c16] at hf
      refine lv_iconst (v := 0) hx hb dX8_measured_184 (by decide) ?_
      refine lv_istore (lv' := [(4, .int 0), (0, .ref (ad 0)), (3, .int x3), (5, .int x5)]) hx hb dX8_measured_185 hl (by decide) rfl (fun ls hl => ?_)
      refine lv_iconst (v := 0) hx hb dX8_measured_187 (by decide) ?_
      refine lv_istore (lv' := [(6, .int 0), (4, .int 0), (0, .ref (ad 0)), (3, .int x3), (5, .int x5)]) hx hb dX8_measured_188 hl (by decide) rfl (fun ls hl => ?_)
      exact hw_190 (M_measured_233 N (M_measured_175 N n)) (hw_233 (M_measured_175 N n) ih) N x3 0 x5 0 H locs ls hP hS (lv_sub hl [2, 3, 1, 4, 0] rfl) hf
  have hw_43 : ∀ (n : Nat), ∀ (x1 : Int32) (x4 : Int32) (x5 : Int32) (H : Heap) (locs : List Loc) (ls : Array Slot), va_P D vwCl ((mw ad cI cZ) σ0) H → va_S A s.heap H locs → lv_has ls 7 [(0, .ref (ad 0)), (1, .int x1), (4, .int x4), (5, .int x5)] → M_measured_43 N n x1 x4 x5 σ0 = some r → W p l e (rm_M_measured) s m av.toArray below meth c H locs 0 0 (QI below av.toArray s D A (mw ad cI cZ) r σ0) (F0 m 43 ls []) := by
    intro n
    induction n with
    | zero =>
      intro x1 x4 x5 H locs ls hP hS hl hf
      cases hf
    | succ n ih =>
      intro x1 x4 x5 H locs ls hP hS hl hf
      rw [M_measured_43_s] at hf
      refine lv_iload hx hb dX8_measured_43 (lv_at hl 3 rfl) ?_
      refine lv_aload_n hx hb dX8_measured_45 rfl (lv_at hl 0 rfl) ?_
      refine mg_0_1 hC hP tw_720 dX8_measured_46 ?_
      refine lv_icmp_ge (tgt := 83) hx hb dX8_measured_49 (by decide) (fun c17 => ?_) (fun c17 => ?_)
      · rw [if_pos c17] at hf
        refine lv_iload hx hb dX8_measured_83 (lv_at hl 2 rfl) ?_
        have h1 := Option.some.inj hf
        exact retI hx hb hr hlocks hP hS h1 rfl dX8_measured_85
      rw [if_neg c17] at hf
      refine lv_iload hx hb dX8_measured_52 (lv_at hl 2 rfl) ?_
      refine lv_iload_n hx hb dX8_measured_54 rfl (lv_at hl 1 rfl) ?_
      refine lv_iload hx hb dX8_measured_55 (lv_at hl 3 rfl) ?_
      refine cSi (As := [.int x1, .int x5]) (rest := [.int x4]) hC (k_M_has l (mw ad cI cZ) (mw_ok ad cI cZ) (ty3 cI cJ cZ) _ rfl) yy_X8_has tw_881 rfl rfl ⟨by decide, by decide⟩ hP hS rfl hl.1 rfl (Nat.le_of_ble_eq_true rfl) dX8_measured_57 (fun H locs hP hS => ?_)
      refine lv_if_eq (tgt := 73) hx hb dX8_measured_60 (by decide) (fun c18 => ?_) (fun c18 => ?_)
      · rw [if_pos c18] at hf
        refine lv_iconst (v := 0) hx hb dX8_measured_73 (by decide) ?_
        refine lv_iadd hx hb dX8_measured_74 ?_
        refine lv_istore (lv' := [(4, .int (x4 + 0)), (0, .ref (ad 0)), (1, .int x1), (5, .int x5)]) hx hb dX8_measured_75 hl (by decide) rfl (fun ls hl => ?_)
        refine lv_iinc (v := (x5 + 1)) (lv' := [(5, .int (x5 + 1)), (4, .int (x4 + 0)), (0, .ref (ad 0)), (1, .int x1)]) hx hb dX8_measured_77 hl (k := 3) rfl rfl (by decide) rfl (fun ls hl => ?_)
        refine lv_goto (tgt := 43) hx hb dX8_measured_80 (by decide) ?_
        exact ih x1 (x4 + 0) (x5 + 1) H locs ls hP hS (lv_sub hl [2, 3, 1, 0] rfl) hf
      rw [if_neg c18] at hf
      refine lv_aload_n hx hb dX8_measured_63 rfl (lv_at hl 0 rfl) ?_
      refine mg_0_10 hC hP tw_729 dX8_measured_64 ?_
      refine lv_iload hx hb dX8_measured_67 (lv_at hl 3 rfl) ?_
      obtain ⟨g19, hf⟩ := grd_some hf
      refine ml_3 hC hP g19 dX8_measured_69 ?_
      refine lv_goto (tgt := 74) hx hb dX8_measured_70 (by decide) ?_
      refine lv_iadd hx hb dX8_measured_74 ?_
      obtain ⟨y20, ey20, hf⟩ := lt_e hf
      rw [← ey20]
      refine lv_istore (lv' := [(4, .int y20), (0, .ref (ad 0)), (1, .int x1), (5, .int x5)]) hx hb dX8_measured_75 hl (by decide) rfl (fun ls hl => ?_)
      refine lv_iinc (v := (x5 + 1)) (lv' := [(5, .int (x5 + 1)), (4, .int y20), (0, .ref (ad 0)), (1, .int x1)]) hx hb dX8_measured_77 hl (k := 3) rfl rfl (by decide) rfl (fun ls hl => ?_)
      refine lv_goto (tgt := 43) hx hb dX8_measured_80 (by decide) ?_
      exact ih x1 y20 (x5 + 1) H locs ls hP hS (lv_sub hl [2, 3, 1, 0] rfl) hf
  have hw_132 : ∀ (n : Nat), ∀ (x3 : Int32) (x5 : Int32) (H : Heap) (locs : List Loc) (ls : Array Slot), va_P D vwCl ((mw ad cI cZ) σ0) H → va_S A s.heap H locs → lv_has ls 7 [(0, .ref (ad 0)), (3, .int x3), (5, .int x5)] → M_measured_132 N n x3 x5 σ0 = some r → W p l e (rm_M_measured) s m av.toArray below meth c H locs 0 0 (QI below av.toArray s D A (mw ad cI cZ) r σ0) (F0 m 132 ls []) := by
    intro n
    induction n with
    | zero =>
      intro x3 x5 H locs ls hP hS hl hf
      cases hf
    | succ n ih =>
      intro x3 x5 H locs ls hP hS hl hf
      rw [M_measured_132_s] at hf
      refine lv_iload hx hb dX8_measured_132 (lv_at hl 2 rfl) ?_
      refine lv_aload_n hx hb dX8_measured_134 rfl (lv_at hl 0 rfl) ?_
      refine mg_0_0 hC hP tw_719 dX8_measured_135 ?_
      refine lv_icmp_ge (tgt := 170) hx hb dX8_measured_138 (by decide) (fun c21 => ?_) (fun c21 => ?_)
      · rw [if_pos c21] at hf
        refine lv_iload_n hx hb dX8_measured_170 rfl (lv_at hl 1 rfl) ?_
        have h1 := Option.some.inj hf
        exact retI hx hb hr hlocks hP hS h1 rfl dX8_measured_171
      rw [if_neg c21] at hf
      refine lv_aload_n hx hb dX8_measured_141 rfl (lv_at hl 0 rfl) ?_
      refine mg_0_15 hC hP tw_734 dX8_measured_142 ?_
      refine lv_iload hx hb dX8_measured_145 (lv_at hl 2 rfl) ?_
      obtain ⟨g22, hf⟩ := grd_some hf
      refine ml_8 hC hP g22 dX8_measured_147 ?_
      refine lv_iload_n hx hb dX8_measured_148 rfl (lv_at hl 1 rfl) ?_
      refine lv_icmp_le (tgt := 162) hx hb dX8_measured_149 (by decide) (fun c23 => ?_) (fun c23 => ?_)
      · rw [if_pos c23] at hf
        refine lv_iload_n hx hb dX8_measured_162 rfl (lv_at hl 1 rfl) ?_
        refine lv_istore_n (lv' := [(3, .int x3), (0, .ref (ad 0)), (5, .int x5)]) hx hb dX8_measured_163 rfl hl (by decide) rfl (fun ls hl => ?_)
        refine lv_iinc (v := (x5 + 1)) (lv' := [(5, .int (x5 + 1)), (3, .int x3), (0, .ref (ad 0))]) hx hb dX8_measured_164 hl (k := 2) rfl rfl (by decide) rfl (fun ls hl => ?_)
        refine lv_goto (tgt := 132) hx hb dX8_measured_167 (by decide) ?_
        exact ih x3 (x5 + 1) H locs ls hP hS (lv_sub hl [2, 1, 0] rfl) hf
      rw [if_neg c23] at hf
      refine lv_aload_n hx hb dX8_measured_152 rfl (lv_at hl 0 rfl) ?_
      refine mg_0_15 hC hP tw_734 dX8_measured_153 ?_
      refine lv_iload hx hb dX8_measured_156 (lv_at hl 2 rfl) ?_
      obtain ⟨g24, hf⟩ := grd_some hf
      refine ml_8 hC hP g24 dX8_measured_158 ?_
      refine lv_goto (tgt := 163) hx hb dX8_measured_159 (by decide) ?_
      obtain ⟨y25, ey25, hf⟩ := lt_e hf
      rw [← ey25]
      refine lv_istore_n (lv' := [(3, .int y25), (0, .ref (ad 0)), (5, .int x5)]) hx hb dX8_measured_163 rfl hl (by decide) rfl (fun ls hl => ?_)
      refine lv_iinc (v := (x5 + 1)) (lv' := [(5, .int (x5 + 1)), (3, .int y25), (0, .ref (ad 0))]) hx hb dX8_measured_164 hl (k := 2) rfl rfl (by decide) rfl (fun ls hl => ?_)
      refine lv_goto (tgt := 132) hx hb dX8_measured_167 (by decide) ?_
      exact ih y25 (x5 + 1) H locs ls hP hS (lv_sub hl [2, 1, 0] rfl) hf
  have hw_257 : ∀ (n : Nat), ∀ (x1 : Int32) (x4 : Int32) (x5 : Int32) (H : Heap) (locs : List Loc) (ls : Array Slot), va_P D vwCl ((mw ad cI cZ) σ0) H → va_S A s.heap H locs → lv_has ls 7 [(0, .ref (ad 0)), (1, .int x1), (4, .int x4), (5, .int x5)] → M_measured_257 N n x1 x4 x5 σ0 = some r → W p l e (rm_M_measured) s m av.toArray below meth c H locs 0 0 (QI below av.toArray s D A (mw ad cI cZ) r σ0) (F0 m 257 ls []) := by
    intro n
    induction n with
    | zero =>
      intro x1 x4 x5 H locs ls hP hS hl hf
      cases hf
    | succ n ih =>
      intro x1 x4 x5 H locs ls hP hS hl hf
      rw [M_measured_257_s] at hf
      refine lv_iload hx hb dX8_measured_257 (lv_at hl 3 rfl) ?_
      refine lv_aload_n hx hb dX8_measured_259 rfl (lv_at hl 0 rfl) ?_
      refine mg_0_1 hC hP tw_720 dX8_measured_260 ?_
      refine lv_icmp_ge (tgt := 297) hx hb dX8_measured_263 (by decide) (fun c26 => ?_) (fun c26 => ?_)
      · rw [if_pos c26] at hf
        refine lv_iload hx hb dX8_measured_297 (lv_at hl 2 rfl) ?_
        have h1 := Option.some.inj hf
        exact retI hx hb hr hlocks hP hS h1 rfl dX8_measured_299
      rw [if_neg c26] at hf
      refine lv_iload hx hb dX8_measured_266 (lv_at hl 2 rfl) ?_
      refine lv_iload_n hx hb dX8_measured_268 rfl (lv_at hl 1 rfl) ?_
      refine lv_iload hx hb dX8_measured_269 (lv_at hl 3 rfl) ?_
      refine cSi (As := [.int x1, .int x5]) (rest := [.int x4]) hC (k_M_has l (mw ad cI cZ) (mw_ok ad cI cZ) (ty3 cI cJ cZ) _ rfl) yy_X8_has tw_881 rfl rfl ⟨by decide, by decide⟩ hP hS rfl hl.1 rfl (Nat.le_of_ble_eq_true rfl) dX8_measured_271 (fun H locs hP hS => ?_)
      refine lv_if_eq (tgt := 287) hx hb dX8_measured_274 (by decide) (fun c27 => ?_) (fun c27 => ?_)
      · rw [if_pos c27] at hf
        refine lv_iconst (v := 0) hx hb dX8_measured_287 (by decide) ?_
        refine lv_iadd hx hb dX8_measured_288 ?_
        refine lv_istore (lv' := [(4, .int (x4 + 0)), (0, .ref (ad 0)), (1, .int x1), (5, .int x5)]) hx hb dX8_measured_289 hl (by decide) rfl (fun ls hl => ?_)
        refine lv_iinc (v := (x5 + 1)) (lv' := [(5, .int (x5 + 1)), (4, .int (x4 + 0)), (0, .ref (ad 0)), (1, .int x1)]) hx hb dX8_measured_291 hl (k := 3) rfl rfl (by decide) rfl (fun ls hl => ?_)
        refine lv_goto (tgt := 257) hx hb dX8_measured_294 (by decide) ?_
        exact ih x1 (x4 + 0) (x5 + 1) H locs ls hP hS (lv_sub hl [2, 3, 1, 0] rfl) hf
      rw [if_neg c27] at hf
      refine lv_aload_n hx hb dX8_measured_277 rfl (lv_at hl 0 rfl) ?_
      refine mg_0_11 hC hP tw_730 dX8_measured_278 ?_
      refine lv_iload hx hb dX8_measured_281 (lv_at hl 3 rfl) ?_
      obtain ⟨g28, hf⟩ := grd_some hf
      refine ml_4 hC hP g28 dX8_measured_283 ?_
      refine lv_goto (tgt := 288) hx hb dX8_measured_284 (by decide) ?_
      refine lv_iadd hx hb dX8_measured_288 ?_
      obtain ⟨y29, ey29, hf⟩ := lt_e hf
      rw [← ey29]
      refine lv_istore (lv' := [(4, .int y29), (0, .ref (ad 0)), (1, .int x1), (5, .int x5)]) hx hb dX8_measured_289 hl (by decide) rfl (fun ls hl => ?_)
      refine lv_iinc (v := (x5 + 1)) (lv' := [(5, .int (x5 + 1)), (4, .int y29), (0, .ref (ad 0)), (1, .int x1)]) hx hb dX8_measured_291 hl (k := 3) rfl rfl (by decide) rfl (fun ls hl => ?_)
      refine lv_goto (tgt := 257) hx hb dX8_measured_294 (by decide) ?_
      exact ih x1 y29 (x5 + 1) H locs ls hP hS (lv_sub hl [2, 3, 1, 0] rfl) hf
  obtain ⟨H, hH⟩ : ∃ z, z = s.heap := ⟨_, rfl⟩
  obtain ⟨locs, hlocs⟩ : ∃ z : List Loc, z = [] := ⟨_, rfl⟩
  rw [← hH] at hP
  have hS : va_S A s.heap H locs := by rw [hH, hlocs]; exact va_S.rf
  suffices hgoal : W p l e _ s m _ below meth c H locs 0 0 _ _ by rw [hH, hlocs] at hgoal; exact hgoal
  refine lv_iconst (v := 0) hx hb dX8_measured_0 (by decide) ?_
  refine lv_istore_n (lv' := [(3, .int 0), (0, .ref (ad 0)), (1, .int x1), (2, .int x2)]) hx hb dX8_measured_1 rfl hl (by decide) rfl (fun ls hl => ?_)
  refine lv_iconst (v := 0) hx hb dX8_measured_2 (by decide) ?_
  refine lv_istore (lv' := [(4, .int 0), (3, .int 0), (0, .ref (ad 0)), (1, .int x1), (2, .int x2)]) hx hb dX8_measured_3 hl (by decide) rfl (fun ls hl => ?_)
  refine lv_iload_n hx hb dX8_measured_5 rfl (lv_at hl 4 rfl) ?_
  by_cases c30 : x2 = 0
  · rw [if_pos c30] at hf
    refine lv_tableIn (tgt := 40) hx hb dX8_measured_6 (by rw [c30]; decide) (by rw [c30]; decide) (by rw [c30]; rfl) (by decide) ?_
    refine lv_iconst (v := 0) hx hb dX8_measured_40 (by decide) ?_
    refine lv_istore (lv' := [(5, .int 0), (4, .int 0), (3, .int 0), (0, .ref (ad 0)), (1, .int x1), (2, .int x2)]) hx hb dX8_measured_41 hl (by decide) rfl (fun ls hl => ?_)
    exact hw_43 N x1 0 0 H locs ls hP hS (lv_sub hl [3, 4, 1, 0] rfl) hf
  rw [if_neg c30] at hf
  by_cases c31 : x2 = 1
  · rw [if_pos c31] at hf
    refine lv_tableIn (tgt := 86) hx hb dX8_measured_6 (by rw [c31]; decide) (by rw [c31]; decide) (by rw [c31]; rfl) (by decide) ?_
    refine lv_iconst (v := 0) hx hb dX8_measured_86 (by decide) ?_
    refine lv_istore (lv' := [(5, .int 0), (4, .int 0), (3, .int 0), (0, .ref (ad 0)), (1, .int x1), (2, .int x2)]) hx hb dX8_measured_87 hl (by decide) rfl (fun ls hl => ?_)
    exact hw_89 N x1 0 0 H locs ls hP hS (lv_sub hl [3, 4, 2, 0] rfl) hf
  rw [if_neg c31] at hf
  by_cases c32 : x2 = 2
  · rw [if_pos c32] at hf
    refine lv_tableIn (tgt := 129) hx hb dX8_measured_6 (by rw [c32]; decide) (by rw [c32]; decide) (by rw [c32]; rfl) (by decide) ?_
    refine lv_iconst (v := 0) hx hb dX8_measured_129 (by decide) ?_
    refine lv_istore (lv' := [(5, .int 0), (4, .int 0), (3, .int 0), (0, .ref (ad 0)), (1, .int x1), (2, .int x2)]) hx hb dX8_measured_130 hl (by decide) rfl (fun ls hl => ?_)
    exact hw_132 N 0 0 H locs ls hP hS (lv_sub hl [3, 2, 0] rfl) hf
  rw [if_neg c32] at hf
  by_cases c33 : x2 = 3
  · rw [if_pos c33] at hf
    refine lv_tableIn (tgt := 172) hx hb dX8_measured_6 (by rw [c33]; decide) (by rw [c33]; decide) (by rw [c33]; rfl) (by decide) ?_
    refine lv_iconst (v := 0) hx hb dX8_measured_172 (by decide) ?_
    refine lv_istore (lv' := [(5, .int 0), (4, .int 0), (3, .int 0), (0, .ref (ad 0)), (1, .int x1), (2, .int x2)]) hx hb dX8_measured_173 hl (by decide) rfl (fun ls hl => ?_)
    exact hw_175 N 0 0 H locs ls hP hS (lv_sub hl [3, 2, 0] rfl) hf
  rw [if_neg c33] at hf
  by_cases c34 : x2 = 4
  · rw [if_pos c34] at hf
    refine lv_tableIn (tgt := 254) hx hb dX8_measured_6 (by rw [c34]; decide) (by rw [c34]; decide) (by rw [c34]; rfl) (by decide) ?_
    refine lv_iconst (v := 0) hx hb dX8_measured_254 (by decide) ?_
    refine lv_istore (lv' := [(5, .int 0), (4, .int 0), (3, .int 0), (0, .ref (ad 0)), (1, .int x1), (2, .int x2)]) hx hb dX8_measured_255 hl (by decide) rfl (fun ls hl => ?_)
    exact hw_257 N x1 0 0 H locs ls hP hS (lv_sub hl [3, 4, 1, 0] rfl) hf
  rw [if_neg c34] at hf
  refine lv_tableOut (tgt := 300) hx hb dX8_measured_6 (sw_out5 c30 c31 c32 c33 c34) (by decide) ?_
  refine lv_iconst (v := 0) hx hb dX8_measured_300 (by decide) ?_
  refine lv_istore (lv' := [(5, .int 0), (4, .int 0), (3, .int 0), (0, .ref (ad 0)), (1, .int x1), (2, .int x2)]) hx hb dX8_measured_301 hl (by decide) rfl (fun ls hl => ?_)
  exact hw_303 N 0 0 H locs ls hP hS (lv_sub hl [3, 2, 0] rfl) hf
theorem dX8_broken_0 : decode cX8_broken 0 = .ok (.iconst 0, 1) := by decide +kernel
theorem dX8_broken_1 : decode cX8_broken 1 = .ok (.istore_n 2, 1) := by decide +kernel
theorem dX8_broken_2 : decode cX8_broken 2 = .ok (.iconst 0, 1) := by decide +kernel
theorem dX8_broken_3 : decode cX8_broken 3 = .ok (.istore_n 3, 1) := by decide +kernel
theorem dX8_broken_4 : decode cX8_broken 4 = .ok (.iload_n 3, 1) := by decide +kernel
theorem dX8_broken_5 : decode cX8_broken 5 = .ok (.aload_n 0, 1) := by decide +kernel
theorem dX8_broken_6 : decode cX8_broken 6 = .ok (.getfield 7, 3) := by decide +kernel
theorem dX8_broken_9 : decode cX8_broken 9 = .ok (.if_icmp .ge 28, 3) := by decide +kernel
theorem dX8_broken_12 : decode cX8_broken 12 = .ok (.aload_n 0, 1) := by decide +kernel
theorem dX8_broken_13 : decode cX8_broken 13 = .ok (.iload_n 1, 1) := by decide +kernel
theorem dX8_broken_14 : decode cX8_broken 14 = .ok (.iload_n 3, 1) := by decide +kernel
theorem dX8_broken_15 : decode cX8_broken 15 = .ok (.invokevirtual 123, 3) := by decide +kernel
theorem dX8_broken_18 : decode cX8_broken 18 = .ok (.aload_n 0, 1) := by decide +kernel
theorem dX8_broken_19 : decode cX8_broken 19 = .ok (.getfield 42, 3) := by decide +kernel
theorem dX8_broken_22 : decode cX8_broken 22 = .ok (.iload_n 3, 1) := by decide +kernel
theorem dX8_broken_23 : decode cX8_broken 23 = .ok (.iaload, 1) := by decide +kernel
theorem dX8_broken_24 : decode cX8_broken 24 = .ok (.if_icmp .le 7, 3) := by decide +kernel
theorem dX8_broken_27 : decode cX8_broken 27 = .ok (.iload_n 2, 1) := by decide +kernel
theorem dX8_broken_28 : decode cX8_broken 28 = .ok (.iconst 1, 1) := by decide +kernel
theorem dX8_broken_29 : decode cX8_broken 29 = .ok (.ior, 1) := by decide +kernel
theorem dX8_broken_30 : decode cX8_broken 30 = .ok (.istore_n 2, 1) := by decide +kernel
theorem dX8_broken_31 : decode cX8_broken 31 = .ok (.iinc 3 1, 3) := by decide +kernel
theorem dX8_broken_34 : decode cX8_broken 34 = .ok (.goto (-30), 3) := by decide +kernel
theorem dX8_broken_37 : decode cX8_broken 37 = .ok (.aload_n 0, 1) := by decide +kernel
theorem dX8_broken_38 : decode cX8_broken 38 = .ok (.iload_n 1, 1) := by decide +kernel
theorem dX8_broken_39 : decode cX8_broken 39 = .ok (.iconst 2, 1) := by decide +kernel
theorem dX8_broken_40 : decode cX8_broken 40 = .ok (.invokevirtual 127, 3) := by decide +kernel
theorem dX8_broken_43 : decode cX8_broken 43 = .ok (.aload_n 0, 1) := by decide +kernel
theorem dX8_broken_44 : decode cX8_broken 44 = .ok (.getfield 13, 3) := by decide +kernel
theorem dX8_broken_47 : decode cX8_broken 47 = .ok (.if_icmp .le 7, 3) := by decide +kernel
theorem dX8_broken_50 : decode cX8_broken 50 = .ok (.iload_n 2, 1) := by decide +kernel
theorem dX8_broken_51 : decode cX8_broken 51 = .ok (.iconst 2, 1) := by decide +kernel
theorem dX8_broken_52 : decode cX8_broken 52 = .ok (.ior, 1) := by decide +kernel
theorem dX8_broken_53 : decode cX8_broken 53 = .ok (.istore_n 2, 1) := by decide +kernel
theorem dX8_broken_54 : decode cX8_broken 54 = .ok (.aload_n 0, 1) := by decide +kernel
theorem dX8_broken_55 : decode cX8_broken 55 = .ok (.iload_n 1, 1) := by decide +kernel
theorem dX8_broken_56 : decode cX8_broken 56 = .ok (.iconst 3, 1) := by decide +kernel
theorem dX8_broken_57 : decode cX8_broken 57 = .ok (.invokevirtual 127, 3) := by decide +kernel
theorem dX8_broken_60 : decode cX8_broken 60 = .ok (.aload_n 0, 1) := by decide +kernel
theorem dX8_broken_61 : decode cX8_broken 61 = .ok (.getfield 16, 3) := by decide +kernel
theorem dX8_broken_64 : decode cX8_broken 64 = .ok (.if_icmp .le 7, 3) := by decide +kernel
theorem dX8_broken_67 : decode cX8_broken 67 = .ok (.iload_n 2, 1) := by decide +kernel
theorem dX8_broken_68 : decode cX8_broken 68 = .ok (.iconst 4, 1) := by decide +kernel
theorem dX8_broken_69 : decode cX8_broken 69 = .ok (.ior, 1) := by decide +kernel
theorem dX8_broken_70 : decode cX8_broken 70 = .ok (.istore_n 2, 1) := by decide +kernel
theorem dX8_broken_71 : decode cX8_broken 71 = .ok (.aload_n 0, 1) := by decide +kernel
theorem dX8_broken_72 : decode cX8_broken 72 = .ok (.iload_n 1, 1) := by decide +kernel
theorem dX8_broken_73 : decode cX8_broken 73 = .ok (.iconst 4, 1) := by decide +kernel
theorem dX8_broken_74 : decode cX8_broken 74 = .ok (.invokevirtual 127, 3) := by decide +kernel
theorem dX8_broken_77 : decode cX8_broken 77 = .ok (.aload_n 0, 1) := by decide +kernel
theorem dX8_broken_78 : decode cX8_broken 78 = .ok (.getfield 93, 3) := by decide +kernel
theorem dX8_broken_81 : decode cX8_broken 81 = .ok (.aload_n 0, 1) := by decide +kernel
theorem dX8_broken_82 : decode cX8_broken 82 = .ok (.getfield 19, 3) := by decide +kernel
theorem dX8_broken_85 : decode cX8_broken 85 = .ok (.invokestatic 100, 3) := by decide +kernel
theorem dX8_broken_88 : decode cX8_broken 88 = .ok (.ifCond .ne 8, 3) := by decide +kernel
theorem dX8_broken_91 : decode cX8_broken 91 = .ok (.iload_n 2, 1) := by decide +kernel
theorem dX8_broken_92 : decode cX8_broken 92 = .ok (.bipush 8, 2) := by decide +kernel
theorem dX8_broken_94 : decode cX8_broken 94 = .ok (.ior, 1) := by decide +kernel
theorem dX8_broken_95 : decode cX8_broken 95 = .ok (.istore_n 2, 1) := by decide +kernel
theorem dX8_broken_96 : decode cX8_broken 96 = .ok (.aload_n 0, 1) := by decide +kernel
theorem dX8_broken_97 : decode cX8_broken 97 = .ok (.iload_n 1, 1) := by decide +kernel
theorem dX8_broken_98 : decode cX8_broken 98 = .ok (.iconst 5, 1) := by decide +kernel
theorem dX8_broken_99 : decode cX8_broken 99 = .ok (.invokevirtual 127, 3) := by decide +kernel
theorem dX8_broken_102 : decode cX8_broken 102 = .ok (.aload_n 0, 1) := by decide +kernel
theorem dX8_broken_103 : decode cX8_broken 103 = .ok (.getfield 22, 3) := by decide +kernel
theorem dX8_broken_106 : decode cX8_broken 106 = .ok (.if_icmp .le 8, 3) := by decide +kernel
theorem dX8_broken_109 : decode cX8_broken 109 = .ok (.iload_n 2, 1) := by decide +kernel
theorem dX8_broken_110 : decode cX8_broken 110 = .ok (.bipush 16, 2) := by decide +kernel
theorem dX8_broken_112 : decode cX8_broken 112 = .ok (.ior, 1) := by decide +kernel
theorem dX8_broken_113 : decode cX8_broken 113 = .ok (.istore_n 2, 1) := by decide +kernel
theorem dX8_broken_114 : decode cX8_broken 114 = .ok (.iload_n 2, 1) := by decide +kernel
theorem dX8_broken_115 : decode cX8_broken 115 = .ok (.ireturn, 1) := by decide +kernel
def M_broken_4 (N : Nat) (k_37 : Int32 → Int32 → St → Option (Int32)) : Nat → Int32 → Int32 → Int32 → St → Option (Int32)
  | 0, _, _, _, _ => none
  | n + 1, x1, x2, x3, σ0 => if (σ0.1 0) ≤ x3 then k_37 x1 x2 σ0 else bnd (M_linesAt N x1 x3 σ0) (fun y2 => grd (inb x3 8) (if y2 ≤ (σ0.2.1 5 (x3).toNatClampNeg) then M_broken_4 N k_37 n x1 x2 (x3 + 1) σ0 else M_broken_4 N k_37 n x1 (x2 ||| 1) (x3 + 1) σ0))
theorem M_broken_4_s (N : Nat) (k_37 : Int32 → Int32 → St → Option (Int32)) (n : Nat) (x1 : Int32) (x2 : Int32) (x3 : Int32) (σ0 : St) : M_broken_4 N k_37 (n + 1) x1 x2 x3 σ0 = if (σ0.1 0) ≤ x3 then k_37 x1 x2 σ0 else bnd (M_linesAt N x1 x3 σ0) (fun y2 => grd (inb x3 8) (if y2 ≤ (σ0.2.1 5 (x3).toNatClampNeg) then M_broken_4 N k_37 n x1 x2 (x3 + 1) σ0 else M_broken_4 N k_37 n x1 (x2 ||| 1) (x3 + 1) σ0)) := rfl
def M_broken_96 (N : Nat) (x1 : Int32) (x2 : Int32) (σ0 : St) : Option (Int32) := bnd (M_measured N x1 5 σ0) (fun y5 => if y5 ≤ (σ0.1 7) then some x2 else some (x2 ||| 16))
def M_broken_71 (N : Nat) (x1 : Int32) (x2 : Int32) (σ0 : St) : Option (Int32) := bnd (M_measured N x1 4 σ0) (fun y7 => if (M_lies y7 (σ0.1 5) (σ0.1 6)) = 0 then M_broken_96 N x1 (x2 ||| 8) σ0 else M_broken_96 N x1 x2 σ0)
def M_broken_54 (N : Nat) (x1 : Int32) (x2 : Int32) (σ0 : St) : Option (Int32) := bnd (M_measured N x1 3 σ0) (fun y9 => if y9 ≤ (σ0.1 4) then M_broken_71 N x1 x2 σ0 else M_broken_71 N x1 (x2 ||| 4) σ0)
def M_broken_37 (N : Nat) (x1 : Int32) (x2 : Int32) (σ0 : St) : Option (Int32) := bnd (M_measured N x1 2 σ0) (fun y11 => if y11 ≤ (σ0.1 3) then M_broken_54 N x1 x2 σ0 else M_broken_54 N x1 (x2 ||| 2) σ0)
def M_broken (N : Nat) (x1 : Int32) (σ0 : St) : Option (Int32) := M_broken_4 N (M_broken_37 N) N x1 0 0 σ0
abbrev rm_M_broken : Room := { frames := 3, cells := 0, slots := 0, locals := 71 }
set_option maxHeartbeats 4000000 in
set_option maxRecDepth 100000 in
theorem k_M_broken (l : Launch) (ad : Nat → Nat) (cI cJ cZ : ClassId) {N : Nat} {x1 : Int32} {σ0 : St} {r : Int32} (hf : M_broken N x1 σ0 = some r) : CtI l yX8_broken (gws (.code yX8_broken cX8_broken 4 (some .int))) (rm_M_broken) (ty3 cI cJ cZ) (mw ad cI cZ) [.ref (ad 0), .int x1] σ0 r σ0 := by
  refine CtI.of (by decide) (mw_ok ad cI cZ) (Nat.le_of_ble_eq_true rfl) ?_
  generalize hav : ([.ref (ad 0), .int x1] : List Value) = av
  intro p e s m below meth c D A hC ls hl hP hS
  obtain ⟨hx, hb, hr, hlocks, hml, hown, hts, hK, hN, hD, hA⟩ := id hC
  rw [← hav] at hl
  have hl : lv_has ls 4 [(0, .ref (ad 0)), (1, .int x1)] := hl
  unfold M_broken at hf
  have hw_4 : ∀ (k_37 : Int32 → Int32 → St → Option (Int32)) (hk_37 : ∀ (x1 : Int32) (x2 : Int32) (H : Heap) (locs : List Loc) (ls : Array Slot), va_P D vwCl ((mw ad cI cZ) σ0) H → va_S A s.heap H locs → lv_has ls 4 [(0, .ref (ad 0)), (1, .int x1), (2, .int x2)] → k_37 x1 x2 σ0 = some r → W p l e (rm_M_broken) s m av.toArray below meth c H locs 0 0 (QI below av.toArray s D A (mw ad cI cZ) r σ0) (F0 m 37 ls [])), ∀ (n : Nat), ∀ (x1 : Int32) (x2 : Int32) (x3 : Int32) (H : Heap) (locs : List Loc) (ls : Array Slot), va_P D vwCl ((mw ad cI cZ) σ0) H → va_S A s.heap H locs → lv_has ls 4 [(0, .ref (ad 0)), (1, .int x1), (2, .int x2), (3, .int x3)] → M_broken_4 N k_37 n x1 x2 x3 σ0 = some r → W p l e (rm_M_broken) s m av.toArray below meth c H locs 0 0 (QI below av.toArray s D A (mw ad cI cZ) r σ0) (F0 m 4 ls []) := by
    intro k_37 hk_37
    intro n
    induction n with
    | zero =>
      intro x1 x2 x3 H locs ls hP hS hl hf
      cases hf
    | succ n ih =>
      intro x1 x2 x3 H locs ls hP hS hl hf
      rw [M_broken_4_s] at hf
      refine lv_iload_n hx hb dX8_broken_4 rfl (lv_at hl 3 rfl) ?_
      refine lv_aload_n hx hb dX8_broken_5 rfl (lv_at hl 0 rfl) ?_
      refine mg_0_0 hC hP tw_719 dX8_broken_6 ?_
      refine lv_icmp_ge (tgt := 37) hx hb dX8_broken_9 (by decide) (fun c1 => ?_) (fun c1 => ?_)
      · rw [if_pos c1] at hf
        exact hk_37 x1 x2 H locs ls hP hS (lv_sub hl [0, 1, 2] rfl) hf
      rw [if_neg c1] at hf
      refine lv_aload_n hx hb dX8_broken_12 rfl (lv_at hl 0 rfl) ?_
      refine lv_iload_n hx hb dX8_broken_13 rfl (lv_at hl 1 rfl) ?_
      refine lv_iload_n hx hb dX8_broken_14 rfl (lv_at hl 3 rfl) ?_
      obtain ⟨y2, hcy2, hf⟩ := bnd_some hf
      refine cVi (As := [.int x1, .int x3]) (rest := []) hC (k_M_linesAt l ad cI cJ cZ hcy2) yy_X8_linesAt tw_896 rfl rfl ⟨by decide, by decide⟩ hP hS (q0 := 0) (ci := 8) rfl rfl (mwa_0 ..) rfl hl.1 rfl (Nat.le_of_ble_eq_true rfl) dX8_broken_15 (fun H locs hP hS => ?_)
      refine lv_aload_n hx hb dX8_broken_18 rfl (lv_at hl 0 rfl) ?_
      refine mg_0_13 hC hP tw_732 dX8_broken_19 ?_
      refine lv_iload_n hx hb dX8_broken_22 rfl (lv_at hl 3 rfl) ?_
      obtain ⟨g3, hf⟩ := grd_some hf
      refine ml_6 hC hP g3 dX8_broken_23 ?_
      refine lv_icmp_le (tgt := 31) hx hb dX8_broken_24 (by decide) (fun c4 => ?_) (fun c4 => ?_)
      · rw [if_pos c4] at hf
        refine lv_iinc (v := (x3 + 1)) (lv' := [(3, .int (x3 + 1)), (0, .ref (ad 0)), (1, .int x1), (2, .int x2)]) hx hb dX8_broken_31 hl (k := 3) rfl rfl (by decide) rfl (fun ls hl => ?_)
        refine lv_goto (tgt := 4) hx hb dX8_broken_34 (by decide) ?_
        exact ih x1 x2 (x3 + 1) H locs ls hP hS (lv_sub hl [1, 2, 3, 0] rfl) hf
      rw [if_neg c4] at hf
      refine lv_iload_n hx hb dX8_broken_27 rfl (lv_at hl 2 rfl) ?_
      refine lv_iconst (v := 1) hx hb dX8_broken_28 (by decide) ?_
      refine lv_ior hx hb dX8_broken_29 ?_
      refine lv_istore_n (lv' := [(2, .int (x2 ||| 1)), (0, .ref (ad 0)), (1, .int x1), (3, .int x3)]) hx hb dX8_broken_30 rfl hl (by decide) rfl (fun ls hl => ?_)
      refine lv_iinc (v := (x3 + 1)) (lv' := [(3, .int (x3 + 1)), (2, .int (x2 ||| 1)), (0, .ref (ad 0)), (1, .int x1)]) hx hb dX8_broken_31 hl (k := 3) rfl rfl (by decide) rfl (fun ls hl => ?_)
      refine lv_goto (tgt := 4) hx hb dX8_broken_34 (by decide) ?_
      exact ih x1 (x2 ||| 1) (x3 + 1) H locs ls hP hS (lv_sub hl [2, 3, 1, 0] rfl) hf
  have hw_96 : ∀ (x1 : Int32) (x2 : Int32) (H : Heap) (locs : List Loc) (ls : Array Slot), va_P D vwCl ((mw ad cI cZ) σ0) H → va_S A s.heap H locs → lv_has ls 4 [(0, .ref (ad 0)), (1, .int x1), (2, .int x2)] → M_broken_96 N x1 x2 σ0 = some r → W p l e (rm_M_broken) s m av.toArray below meth c H locs 0 0 (QI below av.toArray s D A (mw ad cI cZ) r σ0) (F0 m 96 ls []) := by
    intro x1 x2 H locs ls hP hS hl hf
    unfold M_broken_96 at hf
    refine lv_aload_n hx hb dX8_broken_96 rfl (lv_at hl 0 rfl) ?_
    refine lv_iload_n hx hb dX8_broken_97 rfl (lv_at hl 1 rfl) ?_
    refine lv_iconst (v := 5) hx hb dX8_broken_98 (by decide) ?_
    obtain ⟨y5, hcy5, hf⟩ := bnd_some hf
    refine cVi (As := [.int x1, .int 5]) (rest := []) hC (k_M_measured l ad cI cJ cZ hcy5) yy_X8_measured tw_900 rfl rfl ⟨by decide, by decide⟩ hP hS (q0 := 0) (ci := 8) rfl rfl (mwa_0 ..) rfl hl.1 rfl (Nat.le_of_ble_eq_true rfl) dX8_broken_99 (fun H locs hP hS => ?_)
    refine lv_aload_n hx hb dX8_broken_102 rfl (lv_at hl 0 rfl) ?_
    refine mg_0_7 hC hP tw_726 dX8_broken_103 ?_
    refine lv_icmp_le (tgt := 114) hx hb dX8_broken_106 (by decide) (fun c6 => ?_) (fun c6 => ?_)
    · rw [if_pos c6] at hf
      refine lv_iload_n hx hb dX8_broken_114 rfl (lv_at hl 2 rfl) ?_
      have h1 := Option.some.inj hf
      exact retI hx hb hr hlocks hP hS h1 rfl dX8_broken_115
    rw [if_neg c6] at hf
    refine lv_iload_n hx hb dX8_broken_109 rfl (lv_at hl 2 rfl) ?_
    refine lv_bipush (v := 16) hx hb dX8_broken_110 (by decide) ?_
    refine lv_ior hx hb dX8_broken_112 ?_
    refine lv_istore_n (lv' := [(2, .int (x2 ||| 16)), (0, .ref (ad 0)), (1, .int x1)]) hx hb dX8_broken_113 rfl hl (by decide) rfl (fun ls hl => ?_)
    refine lv_iload_n hx hb dX8_broken_114 rfl (lv_at hl 0 rfl) ?_
    have h1 := Option.some.inj hf
    exact retI hx hb hr hlocks hP hS h1 rfl dX8_broken_115
  have hw_71 : ∀ (x1 : Int32) (x2 : Int32) (H : Heap) (locs : List Loc) (ls : Array Slot), va_P D vwCl ((mw ad cI cZ) σ0) H → va_S A s.heap H locs → lv_has ls 4 [(0, .ref (ad 0)), (1, .int x1), (2, .int x2)] → M_broken_71 N x1 x2 σ0 = some r → W p l e (rm_M_broken) s m av.toArray below meth c H locs 0 0 (QI below av.toArray s D A (mw ad cI cZ) r σ0) (F0 m 71 ls []) := by
    intro x1 x2 H locs ls hP hS hl hf
    unfold M_broken_71 at hf
    refine lv_aload_n hx hb dX8_broken_71 rfl (lv_at hl 0 rfl) ?_
    refine lv_iload_n hx hb dX8_broken_72 rfl (lv_at hl 1 rfl) ?_
    refine lv_iconst (v := 4) hx hb dX8_broken_73 (by decide) ?_
    obtain ⟨y7, hcy7, hf⟩ := bnd_some hf
    refine cVi (As := [.int x1, .int 4]) (rest := []) hC (k_M_measured l ad cI cJ cZ hcy7) yy_X8_measured tw_900 rfl rfl ⟨by decide, by decide⟩ hP hS (q0 := 0) (ci := 8) rfl rfl (mwa_0 ..) rfl hl.1 rfl (Nat.le_of_ble_eq_true rfl) dX8_broken_74 (fun H locs hP hS => ?_)
    refine lv_aload_n hx hb dX8_broken_77 rfl (lv_at hl 0 rfl) ?_
    refine mg_0_5 hC hP tw_724 dX8_broken_78 ?_
    refine lv_aload_n hx hb dX8_broken_81 rfl (lv_at hl 0 rfl) ?_
    refine mg_0_6 hC hP tw_725 dX8_broken_82 ?_
    refine cSi (As := [.int y7, .int (σ0.1 5), .int (σ0.1 6)]) (rest := []) hC (k_M_lies l (mw ad cI cZ) (mw_ok ad cI cZ) (ty3 cI cJ cZ) _ rfl) yy_X8_lies tw_815 rfl rfl ⟨by decide, by decide⟩ hP hS rfl hl.1 rfl (Nat.le_of_ble_eq_true rfl) dX8_broken_85 (fun H locs hP hS => ?_)
    refine lv_if_ne (tgt := 96) hx hb dX8_broken_88 (by decide) (fun c8 => ?_) (fun c8 => ?_)
    · rw [if_neg c8] at hf
      exact hw_96 x1 x2 H locs ls hP hS (lv_sub hl [0, 1, 2] rfl) hf
    rw [if_pos c8] at hf
    refine lv_iload_n hx hb dX8_broken_91 rfl (lv_at hl 2 rfl) ?_
    refine lv_bipush (v := 8) hx hb dX8_broken_92 (by decide) ?_
    refine lv_ior hx hb dX8_broken_94 ?_
    refine lv_istore_n (lv' := [(2, .int (x2 ||| 8)), (0, .ref (ad 0)), (1, .int x1)]) hx hb dX8_broken_95 rfl hl (by decide) rfl (fun ls hl => ?_)
    exact hw_96 x1 (x2 ||| 8) H locs ls hP hS (lv_sub hl [1, 2, 0] rfl) hf
  have hw_54 : ∀ (x1 : Int32) (x2 : Int32) (H : Heap) (locs : List Loc) (ls : Array Slot), va_P D vwCl ((mw ad cI cZ) σ0) H → va_S A s.heap H locs → lv_has ls 4 [(0, .ref (ad 0)), (1, .int x1), (2, .int x2)] → M_broken_54 N x1 x2 σ0 = some r → W p l e (rm_M_broken) s m av.toArray below meth c H locs 0 0 (QI below av.toArray s D A (mw ad cI cZ) r σ0) (F0 m 54 ls []) := by
    intro x1 x2 H locs ls hP hS hl hf
    unfold M_broken_54 at hf
    refine lv_aload_n hx hb dX8_broken_54 rfl (lv_at hl 0 rfl) ?_
    refine lv_iload_n hx hb dX8_broken_55 rfl (lv_at hl 1 rfl) ?_
    refine lv_iconst (v := 3) hx hb dX8_broken_56 (by decide) ?_
    obtain ⟨y9, hcy9, hf⟩ := bnd_some hf
    refine cVi (As := [.int x1, .int 3]) (rest := []) hC (k_M_measured l ad cI cJ cZ hcy9) yy_X8_measured tw_900 rfl rfl ⟨by decide, by decide⟩ hP hS (q0 := 0) (ci := 8) rfl rfl (mwa_0 ..) rfl hl.1 rfl (Nat.le_of_ble_eq_true rfl) dX8_broken_57 (fun H locs hP hS => ?_)
    refine lv_aload_n hx hb dX8_broken_60 rfl (lv_at hl 0 rfl) ?_
    refine mg_0_4 hC hP tw_723 dX8_broken_61 ?_
    refine lv_icmp_le (tgt := 71) hx hb dX8_broken_64 (by decide) (fun c10 => ?_) (fun c10 => ?_)
    · rw [if_pos c10] at hf
      exact hw_71 x1 x2 H locs ls hP hS (lv_sub hl [0, 1, 2] rfl) hf
    rw [if_neg c10] at hf
    refine lv_iload_n hx hb dX8_broken_67 rfl (lv_at hl 2 rfl) ?_
    refine lv_iconst (v := 4) hx hb dX8_broken_68 (by decide) ?_
    refine lv_ior hx hb dX8_broken_69 ?_
    refine lv_istore_n (lv' := [(2, .int (x2 ||| 4)), (0, .ref (ad 0)), (1, .int x1)]) hx hb dX8_broken_70 rfl hl (by decide) rfl (fun ls hl => ?_)
    exact hw_71 x1 (x2 ||| 4) H locs ls hP hS (lv_sub hl [1, 2, 0] rfl) hf
  have hw_37 : ∀ (x1 : Int32) (x2 : Int32) (H : Heap) (locs : List Loc) (ls : Array Slot), va_P D vwCl ((mw ad cI cZ) σ0) H → va_S A s.heap H locs → lv_has ls 4 [(0, .ref (ad 0)), (1, .int x1), (2, .int x2)] → M_broken_37 N x1 x2 σ0 = some r → W p l e (rm_M_broken) s m av.toArray below meth c H locs 0 0 (QI below av.toArray s D A (mw ad cI cZ) r σ0) (F0 m 37 ls []) := by
    intro x1 x2 H locs ls hP hS hl hf
    unfold M_broken_37 at hf
    refine lv_aload_n hx hb dX8_broken_37 rfl (lv_at hl 0 rfl) ?_
    refine lv_iload_n hx hb dX8_broken_38 rfl (lv_at hl 1 rfl) ?_
    refine lv_iconst (v := 2) hx hb dX8_broken_39 (by decide) ?_
    obtain ⟨y11, hcy11, hf⟩ := bnd_some hf
    refine cVi (As := [.int x1, .int 2]) (rest := []) hC (k_M_measured l ad cI cJ cZ hcy11) yy_X8_measured tw_900 rfl rfl ⟨by decide, by decide⟩ hP hS (q0 := 0) (ci := 8) rfl rfl (mwa_0 ..) rfl hl.1 rfl (Nat.le_of_ble_eq_true rfl) dX8_broken_40 (fun H locs hP hS => ?_)
    refine lv_aload_n hx hb dX8_broken_43 rfl (lv_at hl 0 rfl) ?_
    refine mg_0_3 hC hP tw_722 dX8_broken_44 ?_
    refine lv_icmp_le (tgt := 54) hx hb dX8_broken_47 (by decide) (fun c12 => ?_) (fun c12 => ?_)
    · rw [if_pos c12] at hf
      exact hw_54 x1 x2 H locs ls hP hS (lv_sub hl [0, 1, 2] rfl) hf
    rw [if_neg c12] at hf
    refine lv_iload_n hx hb dX8_broken_50 rfl (lv_at hl 2 rfl) ?_
    refine lv_iconst (v := 2) hx hb dX8_broken_51 (by decide) ?_
    refine lv_ior hx hb dX8_broken_52 ?_
    refine lv_istore_n (lv' := [(2, .int (x2 ||| 2)), (0, .ref (ad 0)), (1, .int x1)]) hx hb dX8_broken_53 rfl hl (by decide) rfl (fun ls hl => ?_)
    exact hw_54 x1 (x2 ||| 2) H locs ls hP hS (lv_sub hl [1, 2, 0] rfl) hf
  obtain ⟨H, hH⟩ : ∃ z, z = s.heap := ⟨_, rfl⟩
  obtain ⟨locs, hlocs⟩ : ∃ z : List Loc, z = [] := ⟨_, rfl⟩
  rw [← hH] at hP
  have hS : va_S A s.heap H locs := by rw [hH, hlocs]; exact va_S.rf
  suffices hgoal : W p l e _ s m _ below meth c H locs 0 0 _ _ by rw [hH, hlocs] at hgoal; exact hgoal
  refine lv_iconst (v := 0) hx hb dX8_broken_0 (by decide) ?_
  refine lv_istore_n (lv' := [(2, .int 0), (0, .ref (ad 0)), (1, .int x1)]) hx hb dX8_broken_1 rfl hl (by decide) rfl (fun ls hl => ?_)
  refine lv_iconst (v := 0) hx hb dX8_broken_2 (by decide) ?_
  refine lv_istore_n (lv' := [(3, .int 0), (2, .int 0), (0, .ref (ad 0)), (1, .int x1)]) hx hb dX8_broken_3 rfl hl (by decide) rfl (fun ls hl => ?_)
  exact hw_4 (M_broken_37 N) hw_37 N x1 0 0 H locs ls hP hS (lv_sub hl [2, 3, 1, 0] rfl) hf
theorem dX8_isSet_0 : decode cX8_isSet 0 = .ok (.iload_n 1, 1) := by decide +kernel
theorem dX8_isSet_1 : decode cX8_isSet 1 = .ok (.iconst 0, 1) := by decide +kernel
theorem dX8_isSet_2 : decode cX8_isSet 2 = .ok (.iconst 1, 1) := by decide +kernel
theorem dX8_isSet_3 : decode cX8_isSet 3 = .ok (.aload_n 0, 1) := by decide +kernel
theorem dX8_isSet_4 : decode cX8_isSet 4 = .ok (.getfield 87, 3) := by decide +kernel
theorem dX8_isSet_7 : decode cX8_isSet 7 = .ok (.ishl, 1) := by decide +kernel
theorem dX8_isSet_8 : decode cX8_isSet 8 = .ok (.iconst 1, 1) := by decide +kernel
theorem dX8_isSet_9 : decode cX8_isSet 9 = .ok (.isub, 1) := by decide +kernel
theorem dX8_isSet_10 : decode cX8_isSet 10 = .ok (.invokestatic 100, 3) := by decide +kernel
theorem dX8_isSet_13 : decode cX8_isSet 13 = .ok (.ireturn, 1) := by decide +kernel
def M_isSet (x1 : Int32) (σ0 : St) : Int32 := (M_lies x1 0 (((1 : Int32) <<< ((σ0.1 1) &&& 31)) - 1))
abbrev rm_M_isSet : Room := { frames := 1, cells := 0, slots := 0, locals := 22 }
set_option maxHeartbeats 4000000 in
set_option maxRecDepth 100000 in
theorem k_M_isSet (l : Launch) (ad : Nat → Nat) (cI cJ cZ : ClassId) {x1 : Int32} {σ0 : St} {r : Int32} (hf : M_isSet x1 σ0 = r) : CtI l yX8_isSet (gws (.code yX8_isSet cX8_isSet 2 (some .boolean))) (rm_M_isSet) (ty3 cI cJ cZ) (mw ad cI cZ) [.ref (ad 0), .int x1] σ0 r σ0 := by
  refine CtI.of (by decide) (mw_ok ad cI cZ) (Nat.le_of_ble_eq_true rfl) ?_
  generalize hav : ([.ref (ad 0), .int x1] : List Value) = av
  intro p e s m below meth c D A hC ls hl hP hS
  obtain ⟨hx, hb, hr, hlocks, hml, hown, hts, hK, hN, hD, hA⟩ := id hC
  rw [← hav] at hl
  have hl : lv_has ls 2 [(0, .ref (ad 0)), (1, .int x1)] := hl
  unfold M_isSet at hf
  obtain ⟨H, hH⟩ : ∃ z, z = s.heap := ⟨_, rfl⟩
  obtain ⟨locs, hlocs⟩ : ∃ z : List Loc, z = [] := ⟨_, rfl⟩
  rw [← hH] at hP
  have hS : va_S A s.heap H locs := by rw [hH, hlocs]; exact va_S.rf
  suffices hgoal : W p l e _ s m _ below meth c H locs 0 0 _ _ by rw [hH, hlocs] at hgoal; exact hgoal
  refine lv_iload_n hx hb dX8_isSet_0 rfl (lv_at hl 1 rfl) ?_
  refine lv_iconst (v := 0) hx hb dX8_isSet_1 (by decide) ?_
  refine lv_iconst (v := 1) hx hb dX8_isSet_2 (by decide) ?_
  refine lv_aload_n hx hb dX8_isSet_3 rfl (lv_at hl 0 rfl) ?_
  refine mg_0_1 hC hP tw_720 dX8_isSet_4 ?_
  refine lv_ishl hx hb dX8_isSet_7 ?_
  refine lv_iconst (v := 1) hx hb dX8_isSet_8 (by decide) ?_
  refine lv_isub hx hb dX8_isSet_9 ?_
  refine cSi (As := [.int x1, .int 0, .int (((1 : Int32) <<< ((σ0.1 1) &&& 31)) - 1)]) (rest := []) hC (k_M_lies l (mw ad cI cZ) (mw_ok ad cI cZ) (ty3 cI cJ cZ) _ rfl) yy_X8_lies tw_815 rfl rfl ⟨by decide, by decide⟩ hP hS rfl hl.1 rfl (Nat.le_of_ble_eq_true rfl) dX8_isSet_10 (fun H locs hP hS => ?_)
  have h1 := hf
  exact retZ hx hb hr hlocks hP hS (by exact M_lies_01 ..) h1 rfl dX8_isSet_13
theorem M_isSet_01 (x1 : Int32) (σ0 : St) : M_isSet x1 σ0 = 0 ∨ M_isSet x1 σ0 = 1 := by
  unfold M_isSet
  repeat (first | exact Or.inl rfl | exact Or.inr rfl | exact M_lies_01 .. | split)
theorem dX8_tree_0 : decode cX8_tree 0 = .ok (.aload_n 0, 1) := by decide +kernel
theorem dX8_tree_1 : decode cX8_tree 1 = .ok (.iload_n 1, 1) := by decide +kernel
theorem dX8_tree_2 : decode cX8_tree 2 = .ok (.invokevirtual 130, 3) := by decide +kernel
theorem dX8_tree_5 : decode cX8_tree 5 = .ok (.ifCond .ne 7, 3) := by decide +kernel
theorem dX8_tree_8 : decode cX8_tree 8 = .ok (.iconst (-1), 1) := by decide +kernel
theorem dX8_tree_9 : decode cX8_tree 9 = .ok (.goto 16, 3) := by decide +kernel
theorem dX8_tree_12 : decode cX8_tree 12 = .ok (.aload_n 0, 1) := by decide +kernel
theorem dX8_tree_13 : decode cX8_tree 13 = .ok (.iload_n 1, 1) := by decide +kernel
theorem dX8_tree_14 : decode cX8_tree 14 = .ok (.invokevirtual 133, 3) := by decide +kernel
theorem dX8_tree_17 : decode cX8_tree 17 = .ok (.ifCond .eq 7, 3) := by decide +kernel
theorem dX8_tree_20 : decode cX8_tree 20 = .ok (.iconst 1, 1) := by decide +kernel
theorem dX8_tree_21 : decode cX8_tree 21 = .ok (.goto 4, 3) := by decide +kernel
theorem dX8_tree_24 : decode cX8_tree 24 = .ok (.iconst 0, 1) := by decide +kernel
theorem dX8_tree_25 : decode cX8_tree 25 = .ok (.ireturn, 1) := by decide +kernel
def M_tree (N : Nat) (x1 : Int32) (σ0 : St) : Option (Int32 × St) := if (M_isSet x1 σ0) = 0 then some ((-1), σ0) else bnd2 (M_isTree N x1 σ0) (fun y2 σ3 => if y2 = 0 then some (0, σ3) else some (1, σ3))
abbrev rm_M_tree : Room := { frames := 2, cells := 0, slots := 0, locals := 48 }
set_option maxHeartbeats 4000000 in
set_option maxRecDepth 100000 in
theorem k_M_tree (l : Launch) (ad : Nat → Nat) (cI cJ cZ : ClassId) {N : Nat} {x1 : Int32} {σ0 : St} {r : Int32} {τ : St} (hf : M_tree N x1 σ0 = some (r, τ)) : CtI l yX8_tree (gws (.code yX8_tree cX8_tree 2 (some .int))) (rm_M_tree) (ty3 cI cJ cZ) (mw ad cI cZ) [.ref (ad 0), .int x1] σ0 r τ := by
  refine CtI.of (by decide) (mw_ok ad cI cZ) (Nat.le_of_ble_eq_true rfl) ?_
  generalize hav : ([.ref (ad 0), .int x1] : List Value) = av
  intro p e s m below meth c D A hC ls hl hP hS
  obtain ⟨hx, hb, hr, hlocks, hml, hown, hts, hK, hN, hD, hA⟩ := id hC
  rw [← hav] at hl
  have hl : lv_has ls 2 [(0, .ref (ad 0)), (1, .int x1)] := hl
  unfold M_tree at hf
  obtain ⟨H, hH⟩ : ∃ z, z = s.heap := ⟨_, rfl⟩
  obtain ⟨locs, hlocs⟩ : ∃ z : List Loc, z = [] := ⟨_, rfl⟩
  rw [← hH] at hP
  have hS : va_S A s.heap H locs := by rw [hH, hlocs]; exact va_S.rf
  suffices hgoal : W p l e _ s m _ below meth c H locs 0 0 _ _ by rw [hH, hlocs] at hgoal; exact hgoal
  refine lv_aload_n hx hb dX8_tree_0 rfl (lv_at hl 0 rfl) ?_
  refine lv_iload_n hx hb dX8_tree_1 rfl (lv_at hl 1 rfl) ?_
  refine cVi (As := [.int x1]) (rest := []) hC (k_M_isSet l ad cI cJ cZ rfl) yy_X8_isSet tw_870 rfl rfl ⟨by decide, by decide⟩ hP hS (q0 := 0) (ci := 8) rfl rfl (mwa_0 ..) rfl hl.1 rfl (Nat.le_of_ble_eq_true rfl) dX8_tree_2 (fun H locs hP hS => ?_)
  refine lv_if_ne (tgt := 12) hx hb dX8_tree_5 (by decide) (fun c1 => ?_) (fun c1 => ?_)
  · rw [if_neg c1] at hf
    refine lv_aload_n hx hb dX8_tree_12 rfl (lv_at hl 0 rfl) ?_
    refine lv_iload_n hx hb dX8_tree_13 rfl (lv_at hl 1 rfl) ?_
    obtain ⟨y2, σ3, hcy2, hf⟩ := bnd2_some hf
    refine cVi (As := [.int x1]) (rest := []) hC (k_M_isTree l ad cI cJ cZ hcy2) yy_X8_isTree tw_874 rfl rfl ⟨by decide, by decide⟩ hP hS (q0 := 0) (ci := 8) rfl rfl (mwa_0 ..) rfl hl.1 rfl (Nat.le_of_ble_eq_true rfl) dX8_tree_14 (fun H locs hP hS => ?_)
    refine lv_if_eq (tgt := 24) hx hb dX8_tree_17 (by decide) (fun c4 => ?_) (fun c4 => ?_)
    · rw [if_pos c4] at hf
      refine lv_iconst (v := 0) hx hb dX8_tree_24 (by decide) ?_
      obtain ⟨h1, h2⟩ := ret2 hf
      exact retI hx hb hr hlocks hP hS h1 h2 dX8_tree_25
    rw [if_neg c4] at hf
    refine lv_iconst (v := 1) hx hb dX8_tree_20 (by decide) ?_
    refine lv_goto (tgt := 25) hx hb dX8_tree_21 (by decide) ?_
    obtain ⟨h1, h2⟩ := ret2 hf
    exact retI hx hb hr hlocks hP hS h1 h2 dX8_tree_25
  rw [if_pos c1] at hf
  refine lv_iconst (v := (-1)) hx hb dX8_tree_8 (by decide) ?_
  refine lv_goto (tgt := 25) hx hb dX8_tree_9 (by decide) ?_
  obtain ⟨h1, h2⟩ := ret2 hf
  exact retI hx hb hr hlocks hP hS h1 h2 dX8_tree_25
theorem dX8_breaks_0 : decode cX8_breaks 0 = .ok (.aload_n 0, 1) := by decide +kernel
theorem dX8_breaks_1 : decode cX8_breaks 1 = .ok (.iload_n 1, 1) := by decide +kernel
theorem dX8_breaks_2 : decode cX8_breaks 2 = .ok (.invokevirtual 130, 3) := by decide +kernel
theorem dX8_breaks_5 : decode cX8_breaks 5 = .ok (.ifCond .eq 19, 3) := by decide +kernel
theorem dX8_breaks_8 : decode cX8_breaks 8 = .ok (.aload_n 0, 1) := by decide +kernel
theorem dX8_breaks_9 : decode cX8_breaks 9 = .ok (.iload_n 1, 1) := by decide +kernel
theorem dX8_breaks_10 : decode cX8_breaks 10 = .ok (.invokevirtual 133, 3) := by decide +kernel
theorem dX8_breaks_13 : decode cX8_breaks 13 = .ok (.ifCond .eq 11, 3) := by decide +kernel
theorem dX8_breaks_16 : decode cX8_breaks 16 = .ok (.aload_n 0, 1) := by decide +kernel
theorem dX8_breaks_17 : decode cX8_breaks 17 = .ok (.iload_n 1, 1) := by decide +kernel
theorem dX8_breaks_18 : decode cX8_breaks 18 = .ok (.invokevirtual 136, 3) := by decide +kernel
theorem dX8_breaks_21 : decode cX8_breaks 21 = .ok (.goto 4, 3) := by decide +kernel
theorem dX8_breaks_24 : decode cX8_breaks 24 = .ok (.iconst (-1), 1) := by decide +kernel
theorem dX8_breaks_25 : decode cX8_breaks 25 = .ok (.ireturn, 1) := by decide +kernel
def M_breaks (N : Nat) (x1 : Int32) (σ0 : St) : Option (Int32 × St) := if (M_isSet x1 σ0) = 0 then some ((-1), σ0) else bnd2 (M_isTree N x1 σ0) (fun y2 σ3 => if y2 = 0 then some ((-1), σ3) else bnd (M_broken N x1 σ3) (fun y5 => some (y5, σ3)))
abbrev rm_M_breaks : Room := { frames := 4, cells := 0, slots := 0, locals := 94 }
set_option maxHeartbeats 4000000 in
set_option maxRecDepth 100000 in
theorem k_M_breaks (l : Launch) (ad : Nat → Nat) (cI cJ cZ : ClassId) {N : Nat} {x1 : Int32} {σ0 : St} {r : Int32} {τ : St} (hf : M_breaks N x1 σ0 = some (r, τ)) : CtI l yX8_breaks (gws (.code yX8_breaks cX8_breaks 2 (some .int))) (rm_M_breaks) (ty3 cI cJ cZ) (mw ad cI cZ) [.ref (ad 0), .int x1] σ0 r τ := by
  refine CtI.of (by decide) (mw_ok ad cI cZ) (Nat.le_of_ble_eq_true rfl) ?_
  generalize hav : ([.ref (ad 0), .int x1] : List Value) = av
  intro p e s m below meth c D A hC ls hl hP hS
  obtain ⟨hx, hb, hr, hlocks, hml, hown, hts, hK, hN, hD, hA⟩ := id hC
  rw [← hav] at hl
  have hl : lv_has ls 2 [(0, .ref (ad 0)), (1, .int x1)] := hl
  unfold M_breaks at hf
  obtain ⟨H, hH⟩ : ∃ z, z = s.heap := ⟨_, rfl⟩
  obtain ⟨locs, hlocs⟩ : ∃ z : List Loc, z = [] := ⟨_, rfl⟩
  rw [← hH] at hP
  have hS : va_S A s.heap H locs := by rw [hH, hlocs]; exact va_S.rf
  suffices hgoal : W p l e _ s m _ below meth c H locs 0 0 _ _ by rw [hH, hlocs] at hgoal; exact hgoal
  refine lv_aload_n hx hb dX8_breaks_0 rfl (lv_at hl 0 rfl) ?_
  refine lv_iload_n hx hb dX8_breaks_1 rfl (lv_at hl 1 rfl) ?_
  refine cVi (As := [.int x1]) (rest := []) hC (k_M_isSet l ad cI cJ cZ rfl) yy_X8_isSet tw_870 rfl rfl ⟨by decide, by decide⟩ hP hS (q0 := 0) (ci := 8) rfl rfl (mwa_0 ..) rfl hl.1 rfl (Nat.le_of_ble_eq_true rfl) dX8_breaks_2 (fun H locs hP hS => ?_)
  refine lv_if_eq (tgt := 24) hx hb dX8_breaks_5 (by decide) (fun c1 => ?_) (fun c1 => ?_)
  · rw [if_pos c1] at hf
    refine lv_iconst (v := (-1)) hx hb dX8_breaks_24 (by decide) ?_
    obtain ⟨h1, h2⟩ := ret2 hf
    exact retI hx hb hr hlocks hP hS h1 h2 dX8_breaks_25
  rw [if_neg c1] at hf
  refine lv_aload_n hx hb dX8_breaks_8 rfl (lv_at hl 0 rfl) ?_
  refine lv_iload_n hx hb dX8_breaks_9 rfl (lv_at hl 1 rfl) ?_
  obtain ⟨y2, σ3, hcy2, hf⟩ := bnd2_some hf
  refine cVi (As := [.int x1]) (rest := []) hC (k_M_isTree l ad cI cJ cZ hcy2) yy_X8_isTree tw_874 rfl rfl ⟨by decide, by decide⟩ hP hS (q0 := 0) (ci := 8) rfl rfl (mwa_0 ..) rfl hl.1 rfl (Nat.le_of_ble_eq_true rfl) dX8_breaks_10 (fun H locs hP hS => ?_)
  refine lv_if_eq (tgt := 24) hx hb dX8_breaks_13 (by decide) (fun c4 => ?_) (fun c4 => ?_)
  · rw [if_pos c4] at hf
    refine lv_iconst (v := (-1)) hx hb dX8_breaks_24 (by decide) ?_
    obtain ⟨h1, h2⟩ := ret2 hf
    exact retI hx hb hr hlocks hP hS h1 h2 dX8_breaks_25
  rw [if_neg c4] at hf
  refine lv_aload_n hx hb dX8_breaks_16 rfl (lv_at hl 0 rfl) ?_
  refine lv_iload_n hx hb dX8_breaks_17 rfl (lv_at hl 1 rfl) ?_
  obtain ⟨y5, hcy5, hf⟩ := bnd_some hf
  refine cVi (As := [.int x1]) (rest := []) hC (k_M_broken l ad cI cJ cZ hcy5) yy_X8_broken tw_892 rfl rfl ⟨by decide, by decide⟩ hP hS (q0 := 0) (ci := 8) rfl rfl (mwa_0 ..) rfl hl.1 rfl (Nat.le_of_ble_eq_true rfl) dX8_breaks_18 (fun H locs hP hS => ?_)
  refine lv_goto (tgt := 25) hx hb dX8_breaks_21 (by decide) ?_
  obtain ⟨h1, h2⟩ := ret2 hf
  exact retI hx hb hr hlocks hP hS h1 h2 dX8_breaks_25
theorem dX8_measure_0 : decode cX8_measure 0 = .ok (.aload_n 0, 1) := by decide +kernel
theorem dX8_measure_1 : decode cX8_measure 1 = .ok (.iload_n 1, 1) := by decide +kernel
theorem dX8_measure_2 : decode cX8_measure 2 = .ok (.invokevirtual 130, 3) := by decide +kernel
theorem dX8_measure_5 : decode cX8_measure 5 = .ok (.ifCond .eq 29, 3) := by decide +kernel
theorem dX8_measure_8 : decode cX8_measure 8 = .ok (.iload_n 2, 1) := by decide +kernel
theorem dX8_measure_9 : decode cX8_measure 9 = .ok (.iconst 0, 1) := by decide +kernel
theorem dX8_measure_10 : decode cX8_measure 10 = .ok (.iconst 5, 1) := by decide +kernel
theorem dX8_measure_11 : decode cX8_measure 11 = .ok (.invokestatic 100, 3) := by decide +kernel
theorem dX8_measure_14 : decode cX8_measure 14 = .ok (.ifCond .eq 20, 3) := by decide +kernel
theorem dX8_measure_17 : decode cX8_measure 17 = .ok (.aload_n 0, 1) := by decide +kernel
theorem dX8_measure_18 : decode cX8_measure 18 = .ok (.iload_n 1, 1) := by decide +kernel
theorem dX8_measure_19 : decode cX8_measure 19 = .ok (.invokevirtual 133, 3) := by decide +kernel
theorem dX8_measure_22 : decode cX8_measure 22 = .ok (.ifCond .eq 12, 3) := by decide +kernel
theorem dX8_measure_25 : decode cX8_measure 25 = .ok (.aload_n 0, 1) := by decide +kernel
theorem dX8_measure_26 : decode cX8_measure 26 = .ok (.iload_n 1, 1) := by decide +kernel
theorem dX8_measure_27 : decode cX8_measure 27 = .ok (.iload_n 2, 1) := by decide +kernel
theorem dX8_measure_28 : decode cX8_measure 28 = .ok (.invokevirtual 127, 3) := by decide +kernel
theorem dX8_measure_31 : decode cX8_measure 31 = .ok (.goto 4, 3) := by decide +kernel
theorem dX8_measure_34 : decode cX8_measure 34 = .ok (.iconst (-1), 1) := by decide +kernel
theorem dX8_measure_35 : decode cX8_measure 35 = .ok (.ireturn, 1) := by decide +kernel
def M_measure (N : Nat) (x1 : Int32) (x2 : Int32) (σ0 : St) : Option (Int32 × St) := if (M_isSet x1 σ0) = 0 then some ((-1), σ0) else if (M_lies x2 0 5) = 0 then some ((-1), σ0) else bnd2 (M_isTree N x1 σ0) (fun y3 σ4 => if y3 = 0 then some ((-1), σ4) else bnd (M_measured N x1 x2 σ4) (fun y6 => some (y6, σ4)))
abbrev rm_M_measure : Room := { frames := 3, cells := 0, slots := 0, locals := 71 }
set_option maxHeartbeats 4000000 in
set_option maxRecDepth 100000 in
theorem k_M_measure (l : Launch) (ad : Nat → Nat) (cI cJ cZ : ClassId) {N : Nat} {x1 : Int32} {x2 : Int32} {σ0 : St} {r : Int32} {τ : St} (hf : M_measure N x1 x2 σ0 = some (r, τ)) : CtI l yX8_measure (gws (.code yX8_measure cX8_measure 3 (some .int))) (rm_M_measure) (ty3 cI cJ cZ) (mw ad cI cZ) [.ref (ad 0), .int x1, .int x2] σ0 r τ := by
  refine CtI.of (by decide) (mw_ok ad cI cZ) (Nat.le_of_ble_eq_true rfl) ?_
  generalize hav : ([.ref (ad 0), .int x1, .int x2] : List Value) = av
  intro p e s m below meth c D A hC ls hl hP hS
  obtain ⟨hx, hb, hr, hlocks, hml, hown, hts, hK, hN, hD, hA⟩ := id hC
  rw [← hav] at hl
  have hl : lv_has ls 3 [(0, .ref (ad 0)), (1, .int x1), (2, .int x2)] := hl
  unfold M_measure at hf
  obtain ⟨H, hH⟩ : ∃ z, z = s.heap := ⟨_, rfl⟩
  obtain ⟨locs, hlocs⟩ : ∃ z : List Loc, z = [] := ⟨_, rfl⟩
  rw [← hH] at hP
  have hS : va_S A s.heap H locs := by rw [hH, hlocs]; exact va_S.rf
  suffices hgoal : W p l e _ s m _ below meth c H locs 0 0 _ _ by rw [hH, hlocs] at hgoal; exact hgoal
  refine lv_aload_n hx hb dX8_measure_0 rfl (lv_at hl 0 rfl) ?_
  refine lv_iload_n hx hb dX8_measure_1 rfl (lv_at hl 1 rfl) ?_
  refine cVi (As := [.int x1]) (rest := []) hC (k_M_isSet l ad cI cJ cZ rfl) yy_X8_isSet tw_870 rfl rfl ⟨by decide, by decide⟩ hP hS (q0 := 0) (ci := 8) rfl rfl (mwa_0 ..) rfl hl.1 rfl (Nat.le_of_ble_eq_true rfl) dX8_measure_2 (fun H locs hP hS => ?_)
  refine lv_if_eq (tgt := 34) hx hb dX8_measure_5 (by decide) (fun c1 => ?_) (fun c1 => ?_)
  · rw [if_pos c1] at hf
    refine lv_iconst (v := (-1)) hx hb dX8_measure_34 (by decide) ?_
    obtain ⟨h1, h2⟩ := ret2 hf
    exact retI hx hb hr hlocks hP hS h1 h2 dX8_measure_35
  rw [if_neg c1] at hf
  refine lv_iload_n hx hb dX8_measure_8 rfl (lv_at hl 2 rfl) ?_
  refine lv_iconst (v := 0) hx hb dX8_measure_9 (by decide) ?_
  refine lv_iconst (v := 5) hx hb dX8_measure_10 (by decide) ?_
  refine cSi (As := [.int x2, .int 0, .int 5]) (rest := []) hC (k_M_lies l (mw ad cI cZ) (mw_ok ad cI cZ) (ty3 cI cJ cZ) _ rfl) yy_X8_lies tw_815 rfl rfl ⟨by decide, by decide⟩ hP hS rfl hl.1 rfl (Nat.le_of_ble_eq_true rfl) dX8_measure_11 (fun H locs hP hS => ?_)
  refine lv_if_eq (tgt := 34) hx hb dX8_measure_14 (by decide) (fun c2 => ?_) (fun c2 => ?_)
  · rw [if_pos c2] at hf
    refine lv_iconst (v := (-1)) hx hb dX8_measure_34 (by decide) ?_
    obtain ⟨h1, h2⟩ := ret2 hf
    exact retI hx hb hr hlocks hP hS h1 h2 dX8_measure_35
  rw [if_neg c2] at hf
  refine lv_aload_n hx hb dX8_measure_17 rfl (lv_at hl 0 rfl) ?_
  refine lv_iload_n hx hb dX8_measure_18 rfl (lv_at hl 1 rfl) ?_
  obtain ⟨y3, σ4, hcy3, hf⟩ := bnd2_some hf
  refine cVi (As := [.int x1]) (rest := []) hC (k_M_isTree l ad cI cJ cZ hcy3) yy_X8_isTree tw_874 rfl rfl ⟨by decide, by decide⟩ hP hS (q0 := 0) (ci := 8) rfl rfl (mwa_0 ..) rfl hl.1 rfl (Nat.le_of_ble_eq_true rfl) dX8_measure_19 (fun H locs hP hS => ?_)
  refine lv_if_eq (tgt := 34) hx hb dX8_measure_22 (by decide) (fun c5 => ?_) (fun c5 => ?_)
  · rw [if_pos c5] at hf
    refine lv_iconst (v := (-1)) hx hb dX8_measure_34 (by decide) ?_
    obtain ⟨h1, h2⟩ := ret2 hf
    exact retI hx hb hr hlocks hP hS h1 h2 dX8_measure_35
  rw [if_neg c5] at hf
  refine lv_aload_n hx hb dX8_measure_25 rfl (lv_at hl 0 rfl) ?_
  refine lv_iload_n hx hb dX8_measure_26 rfl (lv_at hl 1 rfl) ?_
  refine lv_iload_n hx hb dX8_measure_27 rfl (lv_at hl 2 rfl) ?_
  obtain ⟨y6, hcy6, hf⟩ := bnd_some hf
  refine cVi (As := [.int x1, .int x2]) (rest := []) hC (k_M_measured l ad cI cJ cZ hcy6) yy_X8_measured tw_900 rfl rfl ⟨by decide, by decide⟩ hP hS (q0 := 0) (ci := 8) rfl rfl (mwa_0 ..) rfl hl.1 rfl (Nat.le_of_ble_eq_true rfl) dX8_measure_28 (fun H locs hP hS => ?_)
  refine lv_goto (tgt := 35) hx hb dX8_measure_31 (by decide) ?_
  obtain ⟨h1, h2⟩ := ret2 hf
  exact retI hx hb hr hlocks hP hS h1 h2 dX8_measure_35
