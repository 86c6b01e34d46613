/-! the law from its entry -/
theorem va_D_split {A : Nat → Prop} {w1 w2 : va_W} (h : va_D A (w1 ++ w2)) : va_D A w1 ∧ va_D A w2 ∧ apart w1 w2 ∧ apart w2 w1 := by
  have l1 : ∀ (k : Nat) (q : Nat × va_E), w1[k]? = some q → (w1 ++ w2)[k]? = some q ∧ k < w1.length := fun k q hk => by
    have hl := (List.getElem?_eq_some_iff.mp hk).1
    exact ⟨by rw [List.getElem?_append_left hl]; exact hk, hl⟩
  have l2 : ∀ (k : Nat) (q : Nat × va_E), w2[k]? = some q → (w1 ++ w2)[w1.length + k]? = some q := fun k q hk => by
    rw [List.getElem?_append_right (by omega), Nat.add_sub_cancel_left]; exact hk
  have ap : apart w1 w2 := fun i j x y hx hy e => by
    have := h.1 _ _ x y (l1 i x hx).1 (l2 j y hy) e
    have := (l1 i x hx).2
    omega
  refine ⟨⟨fun i j x y hx hy e => h.1 i j x y (l1 i x hx).1 (l1 j y hy).1 e, fun k q hk => h.2 k q (l1 k q hk).1⟩, ⟨fun i j x y hx hy e => ?_, fun k q hk => h.2 _ q (l2 k q hk)⟩, ap, fun i j x y hx hy e => ap j i y x hy hx e.symm⟩
  have := h.1 _ _ x y (l2 i x hx) (l2 j y hy) e
  omega
theorem apart_addr {w1 w2 v1 v2 : va_W} (h1 : w1.map Prod.fst = v1.map Prod.fst) (h2 : w2.map Prod.fst = v2.map Prod.fst) (h : apart w1 w2) : apart v1 v2 := fun i j x y hx hy e => by
  obtain ⟨e1, g1⟩ := va_at_addr h1 hx
  obtain ⟨e2, g2⟩ := va_at_addr h2 hy
  exact h i j _ _ g1 g2 e
theorem arr_cls {s : State} {args : Array Value} {ty : FieldType} (h : (Cond.arrayClass ty).before args s = true) : ∃ cA : ClassId, ArrOfT s cA ty ∧ s.vm.findClass ("[" ++ ty.toString) = some cA := by
  obtain ⟨cA, kA, comp, h1, h2, h3⟩ := Cond.arrayClass_spec h
  exact ⟨cA, fun n z => ⟨fun k h => (by cases h), kA, h2, comp, h3⟩, h1⟩
set_option maxHeartbeats 4000000 in
set_option maxRecDepth 100000 in
theorem whole_start {p : Program} {e : Env} {s : State} {m : MethodId} {below : List Frame} {meth : Method} {c : Code} (l : Launch) {b L : Nat} {xs : Nat → Int32} (hL : L ≤ 2560) (C0 : lw_At p s m meth c b L xs) : W p l e room_1 s m #[Value.ref b] below meth c s.heap [] 0 0 (lw_Z below #[Value.ref b] s) (entryFrame m ([Value.ref b] : List Value).toArray 4) := by
  obtain ⟨hx, hb, hr, hml, hown0, hts0, hX, hbl, hlocks, hgv⟩ := id C0
  have hown : s.vm.findClass RL = some m.cls := hown0
  have hb : c.code = cL_law := hb
  have hts : ∀ w ∈ gw, w.before #[Value.ref b] s = true := fun w hw => hts0 w (List.mem_filter.mp hw).1
  have hN : nC s := ⟨⟨va_Nw.of rfl (hts0 _ tw_543), va_Nw.of rfl (hts0 _ tw_519)⟩, va_Nw.of rfl (hts0 _ tw_61), va_Nw.of rfl (hts0 _ tw_120), va_Nw.of rfl (hts0 _ tw_190), va_Nw.of rfl (hts0 _ tw_302)⟩
  obtain ⟨cI, aI, rI⟩ := arr_cls (hts _ tw_117)
  obtain ⟨cJ, aJ, rJ⟩ := arr_cls (hts _ tw_198)
  obtain ⟨cZ, aZ, rZ⟩ := arr_cls (hts _ tw_810)
  obtain ⟨c0, i0, k0⟩ := u_known (C := RX0) (T := TX0) (N := 12) (n := 12) hts inX0 (hts _ tw_247)
  obtain ⟨c1, i1, k1⟩ := u_known (C := RX1) (T := TX1) (N := 7) (n := 7) hts inX1 (hts _ tw_119)
  obtain ⟨c2, i2, k2⟩ := u_known (C := RX2) (T := TX2) (N := 10) (n := 10) hts inX2 (hts _ tw_60)
  obtain ⟨c3, i3, k3⟩ := u_known (C := RX3) (T := TX3) (N := 8) (n := 8) hts inX3 (hts _ tw_296)
  obtain ⟨c4, i4, k4⟩ := u_known (C := RX4) (T := TX4) (N := 5) (n := 5) hts inX4 (hts _ tw_153)
  obtain ⟨c5, i5, k5⟩ := u_known (C := RX5) (T := TX5) (N := 1) (n := 1) hts inX5 (hts _ tw_189)
  obtain ⟨c6, i6, k6⟩ := u_known (C := RX6) (T := TX6) (N := 12) (n := 12) hts inX6 (hts _ tw_183)
  obtain ⟨c7, i7, k7⟩ := u_known (C := RX7) (T := TX7) (N := 6) (n := 6) hts inX7 (hts _ tw_52)
  obtain ⟨c8, i8, k8⟩ := u_known (C := RX8) (T := TX8) (N := 30) (n := 30) hts inX8 (hts _ tw_710)
  obtain ⟨D, hKc⟩ : ∃ D : va_G, ∀ (k : Nat) (q : vw_C), vwCl[k]? = some q → u_Kn s q.1 q.2.1 q.2.2 (D.1 k) (D.2 k) := by
    refine ⟨(fun k => match k with | 0 => c0 | 1 => c1 | 2 => c2 | 3 => c3 | 4 => c4 | 5 => c5 | 6 => c6 | 7 => c7 | _ => c8, fun k => match k with | 0 => i0 | 1 => i1 | 2 => i2 | 3 => i3 | 4 => i4 | 5 => i5 | 6 => i6 | 7 => i7 | _ => i8), ?_⟩
    intro k q hq
    match k, hq with
    | 0, hq => cases hq; exact k0
    | 1, hq => cases hq; exact k1
    | 2, hq => cases hq; exact k2
    | 3, hq => cases hq; exact k3
    | 4, hq => cases hq; exact k4
    | 5, hq => cases hq; exact k5
    | 6, hq => cases hq; exact k6
    | 7, hq => cases hq; exact k7
    | 8, hq => cases hq; exact k8
    | k + 9, hq => simp [vwCl] at hq
  have hK : va_K D vwCl (ty3 cI cJ cZ) s := by
    refine ⟨hKc, fun k q hq => ?_⟩
    match k, hq with
    | 0, hq => cases hq; exact ⟨aI, rI⟩
    | 1, hq => cases hq; exact ⟨aJ, rJ⟩
    | 2, hq => cases hq; exact ⟨aZ, rZ⟩
    | k + 3, hq => simp at hq
  have hA : ∀ q : Nat, s.heap.size ≤ q → nwA s q := fun _ h => h
  have hS : va_S (nwA s) s.heap s.heap [] := va_S.rf
  have hP : va_P D vwCl [] s.heap := fun k q h => by simp at h
  have hD : va_D (nwA s) [] := ⟨fun i j p q h => by simp at h, fun k q h => by simp at h⟩
  have hl := lv_entry ([.ref b]) (n := 4) (Nat.le_of_ble_eq_true rfl)
  rw [lg_entry_eq]
  generalize (lg_sl ([.ref b]) ++ List.replicate (4 - (lg_sl ([.ref b])).length) Slot.unset).toArray = ls at hl ⊢
  have hl : lv_has ls 4 [(0, .ref b)] := hl
  refine va_new (ci := 7) (fs := [.null, .null, .null, .null, .null, .null]) (C := RX7) (T := TX7) (N := 6) hx hb hts inX7 tyX7 tyX7_ok hown (hts _ tw_51) (hts _ tw_52) (hts _ tw_38) hK hP hD hS hA rfl (fun j hj => by rcases (show j = 0 ∨ j = 1 ∨ j = 2 ∨ j = 3 ∨ j = 4 ∨ j = 5 by omega) with rfl | rfl | rfl | rfl | rfl | rfl <;> rfl) (by decide) (by decide) dL_law_0 (fun q0 H hP hD hS => ?_)
  have hP : va_P D vwCl [(q0, .inr (7, [.null, .null, .null, .null, .null, .null]))] H := hP
  have hD : va_D (nwA s) [(q0, .inr (7, [.null, .null, .null, .null, .null, .null]))] := hD
  refine W.widen (k := 1) (n := 6) (by omega) (by omega) ?_
  refine lv_dup hx hb dL_law_3 rfl ?_
  have hFc := va_free (wc := [(q0, .inr (7, [.null, .null, .null, .null, .null, .null]))]) hD hS hA [0] rfl
  refine va_callv (va_runI (As := []) (rest := [.ref q0]) ⟨hx, hb, hml, hown, hts⟩ (kn_X7 l cI cJ cZ q0 D H.size) (cwI (Ts := gw) (ws' := gw) 0 hts (gw_pay hts tw_55) rfl rfl rfl (hts _ tw_38) (hts _ tw_53) (hts _ tw_54) rfl ⟨by decide, by decide, by decide +kernel⟩ ⟨by decide, by decide⟩) ⟨pn_blind, fun U hU hW => ⟨rfl, by rw [hU], by rw [hU]; exact hP, va_K.moved hW.alike hK, nC.warm hW hN, hD.weaken (fun _ _ _ _ => trivial)⟩⟩ rfl rfl hl.1 rfl (lv_room (Nat.le_of_ble_eq_true rfl)) dL_law_4 ⟨by decide, by decide⟩) hS (fun q _ h => hFc q h) hFc (fun u t H1 locs ht hvm hw hB hz1 hk1 hS => ?_)
  obtain ⟨hP1, hD1⟩ := hB
  rw [ht] at hP1
  have hD1 := hD1.weaken (fun k q _ h => hFc q.1 h)
  obtain ⟨ad, had⟩ : ∃ z, z = ap0 q0 u := ⟨_, rfl⟩
  have ha0 : q0 = ad 0 := by rw [had]; rfl
  have hP1 : va_P D vwCl (xw (ap0 q0 u) cI cJ (LT_startAnew (nI 2) zX)) H1 := hP1
  have hD1 : va_D (nwA s) (xw (ap0 q0 u) cI cJ (LT_startAnew (nI 2) zX)) := hD1
  rw [← had] at hP1 hD1
  have hX0 := X_first_ok zX (n := 2) (by decide)
  generalize LT_startAnew (nI 2) zX = σ at hP1 hD1 hX0
  rw [ha0]
  refine W.widen (k := 29) (n := 12608) (by omega) (by omega) ?_
  refine lv_astore_n (lv' := [(1, .ref (ad 0)), (0, .ref b)]) hx hb dL_law_7 rfl hl (by decide) rfl (fun ls hl => ?_)
  refine va_new (ci := 8) (fs := [.int 0, .int 0, .int 0, .int 0, .int 0, .int 0, .int 0, .int 0, .null, .null, .null, .null, .null, .null, .null, .null, .null, .null, .int 0, .int 0, .int 0, .null, .null, .null, .null, .null, .null, .null, .null, .null]) (C := RX8) (T := TX8) (N := 30) hx hb hts inX8 tyX8 tyX8_ok hown (hts _ tw_709) (hts _ tw_710) (hts _ tw_47) hK hP1 hD1 hS hA rfl (fun j hj => by rcases (show j = 0 ∨ j = 1 ∨ j = 2 ∨ j = 3 ∨ j = 4 ∨ j = 5 ∨ j = 6 ∨ j = 7 ∨ j = 8 ∨ j = 9 ∨ j = 10 ∨ j = 11 ∨ j = 12 ∨ j = 13 ∨ j = 14 ∨ j = 15 ∨ j = 16 ∨ j = 17 ∨ j = 18 ∨ j = 19 ∨ j = 20 ∨ j = 21 ∨ j = 22 ∨ j = 23 ∨ j = 24 ∨ j = 25 ∨ j = 26 ∨ j = 27 ∨ j = 28 ∨ j = 29 by omega) with rfl | rfl | rfl | rfl | rfl | rfl | rfl | rfl | rfl | rfl | rfl | rfl | rfl | rfl | rfl | rfl | rfl | rfl | rfl | rfl | rfl | rfl | rfl | rfl | rfl | rfl | rfl | rfl | rfl | rfl <;> rfl) (by decide) (by decide) dL_law_8 (fun q1 H hP hD hS => ?_)
  refine W.widen (k := 30) (n := 12638) (by omega) (by omega) ?_
  refine lv_dup hx hb dL_law_11 rfl ?_
  have hPc := hP.sub (ws' := [(q1, .inr (8, [.int 0, .int 0, .int 0, .int 0, .int 0, .int 0, .int 0, .int 0, .null, .null, .null, .null, .null, .null, .null, .null, .null, .null, .int 0, .int 0, .int 0, .null, .null, .null, .null, .null, .null, .null, .null, .null]))]) [29] rfl
  have hDc := hD.sub (ws' := [(q1, .inr (8, [.int 0, .int 0, .int 0, .int 0, .int 0, .int 0, .int 0, .int 0, .null, .null, .null, .null, .null, .null, .null, .null, .null, .null, .int 0, .int 0, .int 0, .null, .null, .null, .null, .null, .null, .null, .null, .null]))]) [29] (by decide) rfl
  have hFc := va_free (wc := [(q1, .inr (8, [.int 0, .int 0, .int 0, .int 0, .int 0, .int 0, .int 0, .int 0, .null, .null, .null, .null, .null, .null, .null, .null, .null, .null, .int 0, .int 0, .int 0, .null, .null, .null, .null, .null, .null, .null, .null, .null]))]) hD hS hA [29] rfl
  obtain ⟨τ, hf, hM0⟩ := M_first_ok (N := 20) (n := 2) (by decide) (τ := zM) rfl
  refine va_callv (va_runI (As := []) (rest := [.ref q1]) ⟨hx, hb, hml, hown, hts⟩ (kn_X8 l cI cJ cZ q1 hf D H.size) (cwI (Ts := gw) (ws' := gw) 0 hts (gw_pay hts tw_713) rfl rfl rfl (hts _ tw_47) (hts _ tw_711) (hts _ tw_712) rfl ⟨by decide, by decide, by decide +kernel⟩ ⟨by decide, by decide⟩) ⟨pn_blind, fun U hU hW => ⟨rfl, by rw [hU], by rw [hU]; exact hPc, va_K.moved hW.alike hK, nC.warm hW hN, hDc.weaken (fun _ _ _ _ => trivial)⟩⟩ rfl rfl hl.1 rfl (lv_room (Nat.le_of_ble_eq_true rfl)) dL_law_12 ⟨by decide, by decide⟩) hS (fun q _ h => hFc q h) hFc (fun u2 t2 H2 locs ht2 hvm2 hw2 hB2 hz2 hk2 hS => ?_)
  obtain ⟨hP2, hD2⟩ := hB2
  rw [ht2] at hP2
  obtain ⟨bd, hbd⟩ : ∃ z, z = ap0 q1 u2 := ⟨_, rfl⟩
  have hb0 : q1 = bd 0 := by rw [hbd]; rfl
  have hP2 : va_P D vwCl (mw (ap0 q1 u2) cI cZ τ) H2 := hP2
  have hD2 : va_D (va_A [(q1, .inr (8, [.int 0, .int 0, .int 0, .int 0, .int 0, .int 0, .int 0, .int 0, .null, .null, .null, .null, .null, .null, .null, .null, .null, .null, .int 0, .int 0, .int 0, .null, .null, .null, .null, .null, .null, .null, .null, .null]))] H.size) (mw (ap0 q1 u2) cI cZ τ) := hD2
  rw [← hbd] at hP2 hD2
  obtain ⟨hP, hD⟩ := va_join (wr := xw ad cI cJ σ) (w1 := mw bd cI cZ τ) hP hD [29] [0, 1, 2, 3, 4, 5, 6, 7, 8, 9, 10, 11, 12, 13, 14, 15, 16, 17, 18, 19, 20, 21, 22, 23, 24, 25, 26, 27, 28] rfl rfl (by decide) (by decide) hk2 hFc hP2 hD2
  obtain ⟨hDx, hDm, ha1, ha2⟩ := va_D_split hD
  have hDD : LwD s cI cJ cZ ad bd := ⟨fun σ' => va_D_addr (xw_ok ad cI cJ σ σ') hDx, fun τ' => va_D_addr (mw_ok bd cI cZ τ τ') hDm, fun σ' τ' => apart_addr (xw_ok ad cI cJ σ σ') (mw_ok bd cI cZ τ τ') ha1, fun σ' τ' => apart_addr (mw_ok bd cI cZ τ τ') (xw_ok ad cI cJ σ σ') ha2⟩
  have hPx : va_P D vwCl (xw ad cI cJ σ) H2 := fun k q hk => hP k q (by rw [List.getElem?_append_left (List.getElem?_eq_some_iff.mp hk).1]; exact hk)
  rw [hb0]
  refine W.widen (k := 49) (n := 60156) (by omega) (by omega) ?_
  refine lv_astore_n (lv' := [(2, .ref (bd 0)), (1, .ref (ad 0)), (0, .ref b)]) hx hb dL_law_15 rfl hl (by decide) rfl (fun ls hl => ?_)
  refine lv_iconst (v := nI 0) hx hb dL_law_16 (by decide) ?_
  refine lv_istore_n (lv' := [(3, .int (nI 0)), (2, .ref (bd 0)), (1, .ref (ad 0)), (0, .ref b)]) hx hb dL_law_17 rfl hl (by decide) rfl (fun ls hl => ?_)
  exact law_loop hr hlocks ⟨hx, hb, hml, hown, hts, hX, hbl, hK, hN.1⟩ hL hDD L 0 (by omega) (by omega) ls H2 locs σ τ (lv_sub hl [3, 2, 1, 0] rfl) ⟨_, _, _, _, _, _, _, _, _, _, _, _, _, _, _, W_first (n := 2) (by decide) (by decide), hX0, hM0⟩ hPx hP2 hS
