/-! the law's loop -/
section LLP
variable {p : Program} {l : Launch} {e : Env} {s : State} {m : MethodId} {below : List Frame} {meth : Method} {c : Code}
variable {D : va_G} {b L : Nat} {xs : Nat → Int32} {cI cJ cZ : ClassId} {ad bd : Nat → Nat}
theorem law_switch {Q : State → Prop} {ls : Array Slot} {H : Heap} {locs : List Loc} {σ τ : St} {i : Nat} (hC : LwC p s m meth c b L xs D cI cJ cZ) (hL : L ≤ 2560) (hDD : LwD s cI cJ cZ ad bd) (hi : i + 4 < L) (hl : lv_has ls 4 [(0, .ref b), (1, .ref (ad 0)), (2, .ref (bd 0)), (3, .int (nI i))]) (hI : Inv σ τ) (hPx : va_P D vwCl (xw ad cI cJ σ) H) (hPm : va_P D vwCl (mw bd cI cZ τ) H) (hS : va_S (nwA s) s.heap H locs) (kk : ∀ (σ' τ' : St) (H1 : Heap) (locs1 : List Loc), Inv σ' τ' → va_P D vwCl (xw ad cI cJ σ') H1 → va_P D vwCl (mw bd cI cZ τ') H1 → va_S (nwA s) s.heap H1 locs1 → W p l e room_1 s m #[Value.ref b] below meth c H1 locs1 49 60156 Q (F0 m 832 ls [])) (x : Int32) : W p l e room_1 s m #[Value.ref b] below meth c H locs 49 60156 Q (F0 m 32 ls [.int (x &&& 31)]) := by
  obtain ⟨hx, hb, -⟩ := id hC
  obtain ⟨v, -, rfl⟩ := wb_of32 x
  rw [show (31 : Int32) = nI (2 ^ 5 - 1) from rfl, fa_mask]
  have hu : v % 2 ^ 5 < 32 := Nat.mod_lt _ (by decide)
  generalize v % 2 ^ 5 = u at hu
  by_cases h24 : u < 24
  · have : u = 0 ∨ u = 1 ∨ u = 2 ∨ u = 3 ∨ u = 4 ∨ u = 5 ∨ u = 6 ∨ u = 7 ∨ u = 8 ∨ u = 9 ∨ u = 10 ∨ u = 11 ∨ u = 12 ∨ u = 13 ∨ u = 14 ∨ u = 15 ∨ u = 16 ∨ u = 17 ∨ u = 18 ∨ u = 19 ∨ u = 20 ∨ u = 21 ∨ u = 22 ∨ u = 23 := by omega
    rcases this with rfl | rfl | rfl | rfl | rfl | rfl | rfl | rfl | rfl | rfl | rfl | rfl | rfl | rfl | rfl | rfl | rfl | rfl | rfl | rfl | rfl | rfl | rfl | rfl
    · exact lv_tableIn (off := 112) (tgt := 144) hx hb dL_law_32 (by decide) (by decide) (by decide) (by decide) (lc_0 hC hL hDD hi hl hI hPx hPm hS kk)
    · exact lv_tableIn (off := 135) (tgt := 167) hx hb dL_law_32 (by decide) (by decide) (by decide) (by decide) (lc_1 hC hL hDD hi hl hI hPx hPm hS kk)
    · exact lv_tableIn (off := 188) (tgt := 220) hx hb dL_law_32 (by decide) (by decide) (by decide) (by decide) (lc_2 hC hL hDD hi hl hI hPx hPm hS kk)
    · exact lv_tableIn (off := 237) (tgt := 269) hx hb dL_law_32 (by decide) (by decide) (by decide) (by decide) (lc_3 hC hL hDD hi hl hI hPx hPm hS kk)
    · exact lv_tableIn (off := 270) (tgt := 302) hx hb dL_law_32 (by decide) (by decide) (by decide) (by decide) (lc_4 hC hL hDD hi hl hI hPx hPm hS kk)
    · exact lv_tableIn (off := 303) (tgt := 335) hx hb dL_law_32 (by decide) (by decide) (by decide) (by decide) (lc_5 hC hL hDD hi hl hI hPx hPm hS kk)
    · exact lv_tableIn (off := 326) (tgt := 358) hx hb dL_law_32 (by decide) (by decide) (by decide) (by decide) (lc_6 hC hL hDD hi hl hI hPx hPm hS kk)
    · exact lv_tableIn (off := 349) (tgt := 381) hx hb dL_law_32 (by decide) (by decide) (by decide) (by decide) (lc_7 hC hL hDD hi hl hI hPx hPm hS kk)
    · exact lv_tableIn (off := 372) (tgt := 404) hx hb dL_law_32 (by decide) (by decide) (by decide) (by decide) (lc_8 hC hL hDD hi hl hI hPx hPm hS kk)
    · exact lv_tableIn (off := 405) (tgt := 437) hx hb dL_law_32 (by decide) (by decide) (by decide) (by decide) (lc_9 hC hL hDD hi hl hI hPx hPm hS kk)
    · exact lv_tableIn (off := 438) (tgt := 470) hx hb dL_law_32 (by decide) (by decide) (by decide) (by decide) (lc_10 hC hL hDD hi hl hI hPx hPm hS kk)
    · exact lv_tableIn (off := 461) (tgt := 493) hx hb dL_law_32 (by decide) (by decide) (by decide) (by decide) (lc_11 hC hL hDD hi hl hI hPx hPm hS kk)
    · exact lv_tableIn (off := 484) (tgt := 516) hx hb dL_law_32 (by decide) (by decide) (by decide) (by decide) (lc_12 hC hL hDD hi hl hI hPx hPm hS kk)
    · exact lv_tableIn (off := 507) (tgt := 539) hx hb dL_law_32 (by decide) (by decide) (by decide) (by decide) (lc_13 hC hL hDD hi hl hI hPx hPm hS kk)
    · exact lv_tableIn (off := 540) (tgt := 572) hx hb dL_law_32 (by decide) (by decide) (by decide) (by decide) (lc_14 hC hL hDD hi hl hI hPx hPm hS kk)
    · exact lv_tableIn (off := 553) (tgt := 585) hx hb dL_law_32 (by decide) (by decide) (by decide) (by decide) (lc_15 hC hL hDD hi hl hI hPx hPm hS kk)
    · exact lv_tableIn (off := 576) (tgt := 608) hx hb dL_law_32 (by decide) (by decide) (by decide) (by decide) (lc_16 hC hL hDD hi hl hI hPx hPm hS kk)
    · exact lv_tableIn (off := 599) (tgt := 631) hx hb dL_law_32 (by decide) (by decide) (by decide) (by decide) (lc_17 hC hL hDD hi hl hI hPx hPm hS kk)
    · exact lv_tableIn (off := 622) (tgt := 654) hx hb dL_law_32 (by decide) (by decide) (by decide) (by decide) (lc_18 hC hL hDD hi hl hI hPx hPm hS kk)
    · exact lv_tableIn (off := 635) (tgt := 667) hx hb dL_law_32 (by decide) (by decide) (by decide) (by decide) (lc_19 hC hL hDD hi hl hI hPx hPm hS kk)
    · exact lv_tableIn (off := 668) (tgt := 700) hx hb dL_law_32 (by decide) (by decide) (by decide) (by decide) (lc_20 hC hL hDD hi hl hI hPx hPm hS kk)
    · exact lv_tableIn (off := 701) (tgt := 733) hx hb dL_law_32 (by decide) (by decide) (by decide) (by decide) (lc_21 hC hL hDD hi hl hI hPx hPm hS kk)
    · exact lv_tableIn (off := 744) (tgt := 776) hx hb dL_law_32 (by decide) (by decide) (by decide) (by decide) (lc_22 hC hL hDD hi hl hI hPx hPm hS kk)
    · exact lv_tableIn (off := 777) (tgt := 809) hx hb dL_law_32 (by decide) (by decide) (by decide) (by decide) (lc_23 hC hL hDD hi hl hI hPx hPm hS kk)
  · refine lv_tableOut (tgt := 832) hx hb dL_law_32 (Or.inr ?_) (by decide) (kk σ τ H locs hI hPx hPm hS)
    rw [nI_toInt (by omega)]
    omega
set_option maxHeartbeats 4000000 in
theorem law_loop (hr : meth.sig.returnType = ret) (hlocks : meth.locks = false) (hC : LwC p s m meth c b L xs D cI cJ cZ) (hL : L ≤ 2560) (hDD : LwD s cI cJ cZ ad bd) : ∀ (n i : Nat), L < i + n + 5 → i ≤ L + 5 → ∀ (ls : Array Slot) (H : Heap) (locs : List Loc) (σ τ : St), lv_has ls 4 [(0, .ref b), (1, .ref (ad 0)), (2, .ref (bd 0)), (3, .int (nI i))] → Inv σ τ → va_P D vwCl (xw ad cI cJ σ) H → va_P D vwCl (mw bd cI cZ τ) H → va_S (nwA s) s.heap H locs → W p l e room_1 s m #[Value.ref b] below meth c H locs 49 60156 (lw_Z below #[Value.ref b] s) (F0 m 18 ls []) := by
  obtain ⟨hx, hb, hml, hown, hts, hX, hbl, hK, hN⟩ := id hC
  intro n
  induction n with
  | zero =>
    intro i hi hi2 ls H locs σ τ hl hI hPx hPm hS
    refine lv_iload_n hx hb dL_law_18 rfl (lv_at hl 3 rfl) ?_
    refine lv_aload_n hx hb dL_law_19 rfl (lv_at hl 0 rfl) ?_
    refine va_slen hx hb hX hbl (show ¬ nwA s b from Nat.not_le.mpr hbl) hS dL_law_20 ?_
    refine lv_iconst (v := 5) hx hb dL_law_21 (by decide) ?_
    refine lv_isub hx hb dL_law_22 ?_
    refine lv_icmp_gt (tgt := 838) hx hb dL_law_23 (by decide) (fun _ => ?_) (fun h => ?_)
    · refine va_forget (fun q hq => hS.2.2 q hq) ?_
      refine W.widen (k := 600000) (n := 7302250) (by decide) (by decide) ?_
      refine lv_iconst (v := 1) hx hb dL_law_838 (by decide) ?_
      exact lw_ret hx hb hr hlocks dL_law_839
    · exfalso
      apply h
      show nI L - 5 < nI i
      rw [fa_lt, sub5 hL, nI_toInt (by omega)]
      omega
  | succ n ih =>
    intro i hi hi2 ls H locs σ τ hl hI hPx hPm hS
    refine lv_iload_n hx hb dL_law_18 rfl (lv_at hl 3 rfl) ?_
    refine lv_aload_n hx hb dL_law_19 rfl (lv_at hl 0 rfl) ?_
    refine va_slen hx hb hX hbl (show ¬ nwA s b from Nat.not_le.mpr hbl) hS dL_law_20 ?_
    refine lv_iconst (v := 5) hx hb dL_law_21 (by decide) ?_
    refine lv_isub hx hb dL_law_22 ?_
    refine lv_icmp_gt (tgt := 838) hx hb dL_law_23 (by decide) (fun _ => ?_) (fun h => ?_)
    · refine va_forget (fun q hq => hS.2.2 q hq) ?_
      refine W.widen (k := 600000) (n := 7302250) (by decide) (by decide) ?_
      refine lv_iconst (v := 1) hx hb dL_law_838 (by decide) ?_
      exact lw_ret hx hb hr hlocks dL_law_839
    · have h2 : ¬ nI L - 5 < nI i := h
      rw [fa_lt, sub5 hL, nI_toInt (by omega)] at h2
      have hi5 : i + 4 < L := by omega
      refine lv_aload_n hx hb dL_law_26 rfl (lv_at hl 0 rfl) ?_
      refine lv_iload_n hx hb dL_law_27 rfl (lv_at hl 3 rfl) ?_
      refine va_sld hx hb hX hbl (show ¬ nwA s b from Nat.not_le.mpr hbl) hS (inb_in (inb_nI (show i < L by omega) (by omega))) dL_law_28 ?_
      refine lv_bipush (v := 31) hx hb dL_law_29 (by decide) ?_
      refine lv_iand hx hb dL_law_31 ?_
      refine law_switch hC hL hDD hi5 hl hI hPx hPm hS (fun σ' τ' H locs hI hPx hPm hS => ?_) _
      refine lv_iinc (v := nI (i + 5)) (lv' := [(3, .int (nI (i + 5))), (0, .ref b), (1, .ref (ad 0)), (2, .ref (bd 0))]) hx hb dL_law_832 hl (k := 3) rfl (show nI i + nI 5 = nI (i + 5) from nI_add ..) (by decide) rfl (fun ls hl => ?_)
      refine lv_goto (tgt := 18) hx hb dL_law_835 (by decide) ?_
      exact ih (i + 5) (by omega) (by omega) ls H locs σ' τ' (lv_sub hl [1, 2, 3, 0] rfl) hI hPx hPm hS
end LLP
