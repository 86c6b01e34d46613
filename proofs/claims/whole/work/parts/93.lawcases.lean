/-! the law's cases (laid by mk87.py) -/
def LwD (s : State) (cI cJ cZ : ClassId) (ad bd : Nat → Nat) : Prop := (∀ σ : St, va_D (nwA s) (xw ad cI cJ σ)) ∧ (∀ τ : St, va_D (nwA s) (mw bd cI cZ τ)) ∧ (∀ σ τ : St, apart (xw ad cI cJ σ) (mw bd cI cZ τ)) ∧ (∀ σ τ : St, apart (mw bd cI cZ τ) (xw ad cI cJ σ))
section LCS
variable {p : Program} {l : Launch} {e : Env} {s : State} {m : MethodId} {below : List Frame} {meth : Method} {c : Code} {H : Heap} {locs : List Loc} {Q : State → Prop}
variable {ls : Array Slot} {D : va_G} {b L : Nat} {xs : Nat → Int32} {cI cJ cZ : ClassId} {ad bd : Nat → Nat} {σ τ : St} {i : Nat}
set_option maxHeartbeats 4000000 in
set_option maxRecDepth 100000 in
theorem lc_0 (hC : LwC p s m meth c b L xs D cI cJ cZ) (hL : L ≤ 2560) (hDD : LwD s cI cJ cZ ad bd) (hi : i + 4 < L) (hl : lv_has ls 4 [(0, .ref b), (1, .ref (ad 0)), (2, .ref (bd 0)), (3, .int (nI i))]) (hI : Inv σ τ) (hPx : va_P D vwCl (xw ad cI cJ σ) H) (hPm : va_P D vwCl (mw bd cI cZ τ) H) (hS : va_S (nwA s) s.heap H locs) (kk : ∀ (σ' τ' : St) (H1 : Heap) (locs1 : List Loc), Inv σ' τ' → va_P D vwCl (xw ad cI cJ σ') H1 → va_P D vwCl (mw bd cI cZ τ') H1 → va_S (nwA s) s.heap H1 locs1 → W p l e room_1 s m #[Value.ref b] below meth c H1 locs1 49 60156 Q (F0 m 832 ls [])) : W p l e room_1 s m #[Value.ref b] below meth c H locs 49 60156 Q (F0 m 144 ls []) := by
  obtain ⟨hx, hb, -⟩ := id hC
  obtain ⟨hDx, hDm, ha1, ha2⟩ := id hDD
  obtain ⟨r, σ', τ', e1, e2, hI'⟩ := call_posts hI (N := 20000) (by decide) (xs (i + 1))
  refine lv_aload_n hx hb dL_law_144 rfl (lv_at hl 1 rfl) ?_
  refine ldS hC hL hS (k := 1) (by omega) hl dL_law_145 dL_law_146 dL_law_147 rfl dL_law_148 dL_law_149 ?_
  refine cLaw (As := [.int (xs (i + 1))]) (rest := []) hC (k_LT_posts l ad cI cJ cZ (Option.some.inj e1)) yy_X7_posts tw_378 rfl rfl ⟨by decide, by decide⟩ hPx (hDx σ) hPm (ha1 σ τ) hS (q0 := 0) (ci := 7) rfl rfl (xwa_0 ..) rfl hl.1 rfl (Nat.le_of_ble_eq_true rfl) ⟨by decide, by decide⟩ dL_law_150 (fun H locs hPx hPm hS => ?_)
  refine lv_aload_n hx hb dL_law_153 rfl (lv_at hl 2 rfl) ?_
  refine ldS hC hL hS (k := 1) (by omega) hl dL_law_154 dL_law_155 dL_law_156 rfl dL_law_157 dL_law_158 ?_
  refine cLaw (As := [.int (xs (i + 1))]) (rest := [.int r]) hC (k_M_posts l bd cI cJ cZ e2) yy_X8_posts tw_811 rfl rfl ⟨by decide, by decide⟩ hPm (hDm τ) hPx (ha2 σ' τ) hS (q0 := 0) (ci := 8) rfl rfl (mwa_0 ..) rfl hl.1 rfl (Nat.le_of_ble_eq_true rfl) ⟨by decide, by decide⟩ dL_law_159 (fun H locs hPm hPx hS => ?_)
  exact lv_icmp_eq (tgt := 832) hx hb dL_law_162 (by decide) (fun _ => kk σ' τ' _ _ hI' hPx hPm hS) (fun h => absurd rfl h)
set_option maxHeartbeats 4000000 in
set_option maxRecDepth 100000 in
theorem lc_1 (hC : LwC p s m meth c b L xs D cI cJ cZ) (hL : L ≤ 2560) (hDD : LwD s cI cJ cZ ad bd) (hi : i + 4 < L) (hl : lv_has ls 4 [(0, .ref b), (1, .ref (ad 0)), (2, .ref (bd 0)), (3, .int (nI i))]) (hI : Inv σ τ) (hPx : va_P D vwCl (xw ad cI cJ σ) H) (hPm : va_P D vwCl (mw bd cI cZ τ) H) (hS : va_S (nwA s) s.heap H locs) (kk : ∀ (σ' τ' : St) (H1 : Heap) (locs1 : List Loc), Inv σ' τ' → va_P D vwCl (xw ad cI cJ σ') H1 → va_P D vwCl (mw bd cI cZ τ') H1 → va_S (nwA s) s.heap H1 locs1 → W p l e room_1 s m #[Value.ref b] below meth c H1 locs1 49 60156 Q (F0 m 832 ls [])) : W p l e room_1 s m #[Value.ref b] below meth c H locs 49 60156 Q (F0 m 167 ls []) := by
  obtain ⟨hx, hb, -⟩ := id hC
  obtain ⟨hDx, hDm, ha1, ha2⟩ := id hDD
  obtain ⟨r, σ', τ', e1, e2, hI'⟩ := call_line hI (N := 20000) (xs (i + 1)) (xs (i + 2)) (xs (i + 3)) (xs (i + 4))
  refine lv_aload_n hx hb dL_law_167 rfl (lv_at hl 1 rfl) ?_
  refine ldS hC hL hS (k := 1) (by omega) hl dL_law_168 dL_law_169 dL_law_170 rfl dL_law_171 dL_law_172 ?_
  refine ldS hC hL hS (k := 2) (by omega) hl dL_law_173 dL_law_174 dL_law_175 rfl dL_law_176 dL_law_177 ?_
  refine ldS hC hL hS (k := 3) (by omega) hl dL_law_178 dL_law_179 dL_law_180 rfl dL_law_181 dL_law_182 ?_
  refine ldS hC hL hS (k := 4) (by omega) hl dL_law_183 dL_law_184 dL_law_185 rfl dL_law_186 dL_law_187 ?_
  refine cLaw (As := [.int (xs (i + 1)), .int (xs (i + 2)), .int (xs (i + 3)), .int (xs (i + 4))]) (rest := []) hC (k_LT_line l ad cI cJ cZ e1) yy_X7_line tw_385 rfl rfl ⟨by decide, by decide⟩ hPx (hDx σ) hPm (ha1 σ τ) hS (q0 := 0) (ci := 7) rfl rfl (xwa_0 ..) rfl hl.1 rfl (Nat.le_of_ble_eq_true rfl) ⟨by decide, by decide⟩ dL_law_188 (fun H locs hPx hPm hS => ?_)
  refine lv_aload_n hx hb dL_law_191 rfl (lv_at hl 2 rfl) ?_
  refine ldS hC hL hS (k := 1) (by omega) hl dL_law_192 dL_law_193 dL_law_194 rfl dL_law_195 dL_law_196 ?_
  refine ldS hC hL hS (k := 2) (by omega) hl dL_law_197 dL_law_198 dL_law_199 rfl dL_law_200 dL_law_201 ?_
  refine ldS hC hL hS (k := 3) (by omega) hl dL_law_202 dL_law_203 dL_law_204 rfl dL_law_205 dL_law_206 ?_
  refine ldS hC hL hS (k := 4) (by omega) hl dL_law_207 dL_law_208 dL_law_209 rfl dL_law_210 dL_law_211 ?_
  refine cLaw (As := [.int (xs (i + 1)), .int (xs (i + 2)), .int (xs (i + 3)), .int (xs (i + 4))]) (rest := [.int r]) hC (k_M_line l bd cI cJ cZ e2) yy_X8_line tw_818 rfl rfl ⟨by decide, by decide⟩ hPm (hDm τ) hPx (ha2 σ' τ) hS (q0 := 0) (ci := 8) rfl rfl (mwa_0 ..) rfl hl.1 rfl (Nat.le_of_ble_eq_true rfl) ⟨by decide, by decide⟩ dL_law_212 (fun H locs hPm hPx hS => ?_)
  exact lv_icmp_eq (tgt := 832) hx hb dL_law_215 (by decide) (fun _ => kk σ' τ' _ _ hI' hPx hPm hS) (fun h => absurd rfl h)
set_option maxHeartbeats 4000000 in
set_option maxRecDepth 100000 in
theorem lc_2 (hC : LwC p s m meth c b L xs D cI cJ cZ) (hL : L ≤ 2560) (hDD : LwD s cI cJ cZ ad bd) (hi : i + 4 < L) (hl : lv_has ls 4 [(0, .ref b), (1, .ref (ad 0)), (2, .ref (bd 0)), (3, .int (nI i))]) (hI : Inv σ τ) (hPx : va_P D vwCl (xw ad cI cJ σ) H) (hPm : va_P D vwCl (mw bd cI cZ τ) H) (hS : va_S (nwA s) s.heap H locs) (kk : ∀ (σ' τ' : St) (H1 : Heap) (locs1 : List Loc), Inv σ' τ' → va_P D vwCl (xw ad cI cJ σ') H1 → va_P D vwCl (mw bd cI cZ τ') H1 → va_S (nwA s) s.heap H1 locs1 → W p l e room_1 s m #[Value.ref b] below meth c H1 locs1 49 60156 Q (F0 m 832 ls [])) : W p l e room_1 s m #[Value.ref b] below meth c H locs 49 60156 Q (F0 m 220 ls []) := by
  obtain ⟨hx, hb, -⟩ := id hC
  obtain ⟨hDx, hDm, ha1, ha2⟩ := id hDD
  by_cases h0 : xs (i + 2) = 0
  · obtain ⟨r, σ', τ', e1, e2, hI'⟩ := call_cut hI (N := 20000) (xs (i + 1)) (b := 0) (by decide)
    refine lv_aload_n hx hb dL_law_220 rfl (lv_at hl 1 rfl) ?_
    refine ldS hC hL hS (k := 1) (by omega) hl dL_law_221 dL_law_222 dL_law_223 rfl dL_law_224 dL_law_225 ?_
    refine ldS hC hL hS (k := 2) (by omega) hl dL_law_226 dL_law_227 dL_law_228 rfl dL_law_229 dL_law_230 ?_
    refine lv_if_eq (tgt := 238) hx hb dL_law_231 (by decide) (fun _ => ?_) (fun z => absurd h0 z)
    refine lv_iconst (v := nI 0) hx hb dL_law_238 rfl ?_
    refine cLaw (As := [.int (xs (i + 1)), .int (nI 0)]) (rest := []) hC (k_LT_cut l ad cI cJ cZ (Option.some.inj e1)) yy_X7_cut tw_397 rfl rfl ⟨by decide, by decide⟩ hPx (hDx σ) hPm (ha1 σ τ) hS (q0 := 0) (ci := 7) rfl rfl (xwa_0 ..) rfl hl.1 rfl (Nat.le_of_ble_eq_true rfl) ⟨by decide, by decide⟩ dL_law_239 (fun H locs hPx hPm hS => ?_)
    refine lv_aload_n hx hb dL_law_242 rfl (lv_at hl 2 rfl) ?_
    refine ldS hC hL hS (k := 1) (by omega) hl dL_law_243 dL_law_244 dL_law_245 rfl dL_law_246 dL_law_247 ?_
    refine ldS hC hL hS (k := 2) (by omega) hl dL_law_248 dL_law_249 dL_law_250 rfl dL_law_251 dL_law_252 ?_
    refine lv_if_eq (tgt := 260) hx hb dL_law_253 (by decide) (fun _ => ?_) (fun z => absurd h0 z)
    refine lv_iconst (v := nI 0) hx hb dL_law_260 rfl ?_
    refine cLaw (As := [.int (xs (i + 1)), .int (nI 0)]) (rest := [.int r]) hC (k_M_cut l bd cI cJ cZ e2) yy_X8_cut tw_826 rfl rfl ⟨by decide, by decide⟩ hPm (hDm τ) hPx (ha2 σ' τ) hS (q0 := 0) (ci := 8) rfl rfl (mwa_0 ..) rfl hl.1 rfl (Nat.le_of_ble_eq_true rfl) ⟨by decide, by decide⟩ dL_law_261 (fun H locs hPm hPx hS => ?_)
    exact lv_icmp_eq (tgt := 832) hx hb dL_law_264 (by decide) (fun _ => kk σ' τ' _ _ hI' hPx hPm hS) (fun h => absurd rfl h)
  · obtain ⟨r, σ', τ', e1, e2, hI'⟩ := call_cut hI (N := 20000) (xs (i + 1)) (b := 1) (by decide)
    refine lv_aload_n hx hb dL_law_220 rfl (lv_at hl 1 rfl) ?_
    refine ldS hC hL hS (k := 1) (by omega) hl dL_law_221 dL_law_222 dL_law_223 rfl dL_law_224 dL_law_225 ?_
    refine ldS hC hL hS (k := 2) (by omega) hl dL_law_226 dL_law_227 dL_law_228 rfl dL_law_229 dL_law_230 ?_
    refine lv_if_eq (tgt := 238) hx hb dL_law_231 (by decide) (fun z => absurd z h0) (fun _ => ?_)
    refine lv_iconst (v := nI 1) hx hb dL_law_234 rfl ?_
    refine lv_goto (tgt := 239) hx hb dL_law_235 (by decide) ?_
    refine cLaw (As := [.int (xs (i + 1)), .int (nI 1)]) (rest := []) hC (k_LT_cut l ad cI cJ cZ (Option.some.inj e1)) yy_X7_cut tw_397 rfl rfl ⟨by decide, by decide⟩ hPx (hDx σ) hPm (ha1 σ τ) hS (q0 := 0) (ci := 7) rfl rfl (xwa_0 ..) rfl hl.1 rfl (Nat.le_of_ble_eq_true rfl) ⟨by decide, by decide⟩ dL_law_239 (fun H locs hPx hPm hS => ?_)
    refine lv_aload_n hx hb dL_law_242 rfl (lv_at hl 2 rfl) ?_
    refine ldS hC hL hS (k := 1) (by omega) hl dL_law_243 dL_law_244 dL_law_245 rfl dL_law_246 dL_law_247 ?_
    refine ldS hC hL hS (k := 2) (by omega) hl dL_law_248 dL_law_249 dL_law_250 rfl dL_law_251 dL_law_252 ?_
    refine lv_if_eq (tgt := 260) hx hb dL_law_253 (by decide) (fun z => absurd z h0) (fun _ => ?_)
    refine lv_iconst (v := nI 1) hx hb dL_law_256 rfl ?_
    refine lv_goto (tgt := 261) hx hb dL_law_257 (by decide) ?_
    refine cLaw (As := [.int (xs (i + 1)), .int (nI 1)]) (rest := [.int r]) hC (k_M_cut l bd cI cJ cZ e2) yy_X8_cut tw_826 rfl rfl ⟨by decide, by decide⟩ hPm (hDm τ) hPx (ha2 σ' τ) hS (q0 := 0) (ci := 8) rfl rfl (mwa_0 ..) rfl hl.1 rfl (Nat.le_of_ble_eq_true rfl) ⟨by decide, by decide⟩ dL_law_261 (fun H locs hPm hPx hS => ?_)
    exact lv_icmp_eq (tgt := 832) hx hb dL_law_264 (by decide) (fun _ => kk σ' τ' _ _ hI' hPx hPm hS) (fun h => absurd rfl h)
set_option maxHeartbeats 4000000 in
set_option maxRecDepth 100000 in
theorem lc_3 (hC : LwC p s m meth c b L xs D cI cJ cZ) (hL : L ≤ 2560) (hDD : LwD s cI cJ cZ ad bd) (hi : i + 4 < L) (hl : lv_has ls 4 [(0, .ref b), (1, .ref (ad 0)), (2, .ref (bd 0)), (3, .int (nI i))]) (hI : Inv σ τ) (hPx : va_P D vwCl (xw ad cI cJ σ) H) (hPm : va_P D vwCl (mw bd cI cZ τ) H) (hS : va_S (nwA s) s.heap H locs) (kk : ∀ (σ' τ' : St) (H1 : Heap) (locs1 : List Loc), Inv σ' τ' → va_P D vwCl (xw ad cI cJ σ') H1 → va_P D vwCl (mw bd cI cZ τ') H1 → va_S (nwA s) s.heap H1 locs1 → W p l e room_1 s m #[Value.ref b] below meth c H1 locs1 49 60156 Q (F0 m 832 ls [])) : W p l e room_1 s m #[Value.ref b] below meth c H locs 49 60156 Q (F0 m 269 ls []) := by
  obtain ⟨hx, hb, -⟩ := id hC
  obtain ⟨hDx, hDm, ha1, ha2⟩ := id hDD
  obtain ⟨r, σ', τ', e1, e2, hI'⟩ := call_price hI (N := 20000) (xs (i + 1)) (xs (i + 2))
  refine lv_aload_n hx hb dL_law_269 rfl (lv_at hl 1 rfl) ?_
  refine ldS hC hL hS (k := 1) (by omega) hl dL_law_270 dL_law_271 dL_law_272 rfl dL_law_273 dL_law_274 ?_
  refine ldS hC hL hS (k := 2) (by omega) hl dL_law_275 dL_law_276 dL_law_277 rfl dL_law_278 dL_law_279 ?_
  refine cLaw (As := [.int (xs (i + 1)), .int (xs (i + 2))]) (rest := []) hC (k_LT_price l ad cI cJ cZ e1) yy_X7_price tw_409 rfl rfl ⟨by decide, by decide⟩ hPx (hDx σ) hPm (ha1 σ τ) hS (q0 := 0) (ci := 7) rfl rfl (xwa_0 ..) rfl hl.1 rfl (Nat.le_of_ble_eq_true rfl) ⟨by decide, by decide⟩ dL_law_280 (fun H locs hPx hPm hS => ?_)
  refine lv_aload_n hx hb dL_law_283 rfl (lv_at hl 2 rfl) ?_
  refine ldS hC hL hS (k := 1) (by omega) hl dL_law_284 dL_law_285 dL_law_286 rfl dL_law_287 dL_law_288 ?_
  refine ldS hC hL hS (k := 2) (by omega) hl dL_law_289 dL_law_290 dL_law_291 rfl dL_law_292 dL_law_293 ?_
  refine cLaw (As := [.int (xs (i + 1)), .int (xs (i + 2))]) (rest := [.int r]) hC (k_M_price l bd cI cJ cZ e2) yy_X8_price tw_834 rfl rfl ⟨by decide, by decide⟩ hPm (hDm τ) hPx (ha2 σ' τ) hS (q0 := 0) (ci := 8) rfl rfl (mwa_0 ..) rfl hl.1 rfl (Nat.le_of_ble_eq_true rfl) ⟨by decide, by decide⟩ dL_law_294 (fun H locs hPm hPx hS => ?_)
  exact lv_icmp_eq (tgt := 832) hx hb dL_law_297 (by decide) (fun _ => kk σ' τ' _ _ hI' hPx hPm hS) (fun h => absurd rfl h)
set_option maxHeartbeats 4000000 in
set_option maxRecDepth 100000 in
theorem lc_4 (hC : LwC p s m meth c b L xs D cI cJ cZ) (hL : L ≤ 2560) (hDD : LwD s cI cJ cZ ad bd) (hi : i + 4 < L) (hl : lv_has ls 4 [(0, .ref b), (1, .ref (ad 0)), (2, .ref (bd 0)), (3, .int (nI i))]) (hI : Inv σ τ) (hPx : va_P D vwCl (xw ad cI cJ σ) H) (hPm : va_P D vwCl (mw bd cI cZ τ) H) (hS : va_S (nwA s) s.heap H locs) (kk : ∀ (σ' τ' : St) (H1 : Heap) (locs1 : List Loc), Inv σ' τ' → va_P D vwCl (xw ad cI cJ σ') H1 → va_P D vwCl (mw bd cI cZ τ') H1 → va_S (nwA s) s.heap H1 locs1 → W p l e room_1 s m #[Value.ref b] below meth c H1 locs1 49 60156 Q (F0 m 832 ls [])) : W p l e room_1 s m #[Value.ref b] below meth c H locs 49 60156 Q (F0 m 302 ls []) := by
  obtain ⟨hx, hb, -⟩ := id hC
  obtain ⟨hDx, hDm, ha1, ha2⟩ := id hDD
  obtain ⟨r, σ', τ', e1, e2, hI'⟩ := call_degree hI (N := 20000) (xs (i + 1)) (xs (i + 2))
  refine lv_aload_n hx hb dL_law_302 rfl (lv_at hl 1 rfl) ?_
  refine ldS hC hL hS (k := 1) (by omega) hl dL_law_303 dL_law_304 dL_law_305 rfl dL_law_306 dL_law_307 ?_
  refine ldS hC hL hS (k := 2) (by omega) hl dL_law_308 dL_law_309 dL_law_310 rfl dL_law_311 dL_law_312 ?_
  refine cLaw (As := [.int (xs (i + 1)), .int (xs (i + 2))]) (rest := []) hC (k_LT_degree l ad cI cJ cZ e1) yy_X7_degree tw_421 rfl rfl ⟨by decide, by decide⟩ hPx (hDx σ) hPm (ha1 σ τ) hS (q0 := 0) (ci := 7) rfl rfl (xwa_0 ..) rfl hl.1 rfl (Nat.le_of_ble_eq_true rfl) ⟨by decide, by decide⟩ dL_law_313 (fun H locs hPx hPm hS => ?_)
  refine lv_aload_n hx hb dL_law_316 rfl (lv_at hl 2 rfl) ?_
  refine ldS hC hL hS (k := 1) (by omega) hl dL_law_317 dL_law_318 dL_law_319 rfl dL_law_320 dL_law_321 ?_
  refine ldS hC hL hS (k := 2) (by omega) hl dL_law_322 dL_law_323 dL_law_324 rfl dL_law_325 dL_law_326 ?_
  refine cLaw (As := [.int (xs (i + 1)), .int (xs (i + 2))]) (rest := [.int r]) hC (k_M_degree l bd cI cJ cZ e2) yy_X8_degree tw_838 rfl rfl ⟨by decide, by decide⟩ hPm (hDm τ) hPx (ha2 σ' τ) hS (q0 := 0) (ci := 8) rfl rfl (mwa_0 ..) rfl hl.1 rfl (Nat.le_of_ble_eq_true rfl) ⟨by decide, by decide⟩ dL_law_327 (fun H locs hPm hPx hS => ?_)
  exact lv_icmp_eq (tgt := 832) hx hb dL_law_330 (by decide) (fun _ => kk σ' τ' _ _ hI' hPx hPm hS) (fun h => absurd rfl h)
set_option maxHeartbeats 4000000 in
set_option maxRecDepth 100000 in
theorem lc_5 (hC : LwC p s m meth c b L xs D cI cJ cZ) (hL : L ≤ 2560) (hDD : LwD s cI cJ cZ ad bd) (hi : i + 4 < L) (hl : lv_has ls 4 [(0, .ref b), (1, .ref (ad 0)), (2, .ref (bd 0)), (3, .int (nI i))]) (hI : Inv σ τ) (hPx : va_P D vwCl (xw ad cI cJ σ) H) (hPm : va_P D vwCl (mw bd cI cZ τ) H) (hS : va_S (nwA s) s.heap H locs) (kk : ∀ (σ' τ' : St) (H1 : Heap) (locs1 : List Loc), Inv σ' τ' → va_P D vwCl (xw ad cI cJ σ') H1 → va_P D vwCl (mw bd cI cZ τ') H1 → va_S (nwA s) s.heap H1 locs1 → W p l e room_1 s m #[Value.ref b] below meth c H1 locs1 49 60156 Q (F0 m 832 ls [])) : W p l e room_1 s m #[Value.ref b] below meth c H locs 49 60156 Q (F0 m 335 ls []) := by
  obtain ⟨hx, hb, -⟩ := id hC
  obtain ⟨hDx, hDm, ha1, ha2⟩ := id hDD
  obtain ⟨r, σ', τ', e1, e2, hI'⟩ := call_depth hI (xs (i + 1))
  refine lv_aload_n hx hb dL_law_335 rfl (lv_at hl 1 rfl) ?_
  refine ldS hC hL hS (k := 1) (by omega) hl dL_law_336 dL_law_337 dL_law_338 rfl dL_law_339 dL_law_340 ?_
  refine cLaw (As := [.int (xs (i + 1))]) (rest := []) hC (k_LT_depth l ad cI cJ cZ (Option.some.inj e1)) yy_X7_depth tw_429 rfl rfl ⟨by decide, by decide⟩ hPx (hDx σ) hPm (ha1 σ τ) hS (q0 := 0) (ci := 7) rfl rfl (xwa_0 ..) rfl hl.1 rfl (Nat.le_of_ble_eq_true rfl) ⟨by decide, by decide⟩ dL_law_341 (fun H locs hPx hPm hS => ?_)
  refine lv_aload_n hx hb dL_law_344 rfl (lv_at hl 2 rfl) ?_
  refine ldS hC hL hS (k := 1) (by omega) hl dL_law_345 dL_law_346 dL_law_347 rfl dL_law_348 dL_law_349 ?_
  refine cLaw (As := [.int (xs (i + 1))]) (rest := [.int r]) hC (k_M_depth l bd cI cJ cZ (Option.some.inj e2)) yy_X8_depth tw_842 rfl rfl ⟨by decide, by decide⟩ hPm (hDm τ) hPx (ha2 σ' τ) hS (q0 := 0) (ci := 8) rfl rfl (mwa_0 ..) rfl hl.1 rfl (Nat.le_of_ble_eq_true rfl) ⟨by decide, by decide⟩ dL_law_350 (fun H locs hPm hPx hS => ?_)
  exact lv_icmp_eq (tgt := 832) hx hb dL_law_353 (by decide) (fun _ => kk σ' τ' _ _ hI' hPx hPm hS) (fun h => absurd rfl h)
set_option maxHeartbeats 4000000 in
set_option maxRecDepth 100000 in
theorem lc_6 (hC : LwC p s m meth c b L xs D cI cJ cZ) (hL : L ≤ 2560) (hDD : LwD s cI cJ cZ ad bd) (hi : i + 4 < L) (hl : lv_has ls 4 [(0, .ref b), (1, .ref (ad 0)), (2, .ref (bd 0)), (3, .int (nI i))]) (hI : Inv σ τ) (hPx : va_P D vwCl (xw ad cI cJ σ) H) (hPm : va_P D vwCl (mw bd cI cZ τ) H) (hS : va_S (nwA s) s.heap H locs) (kk : ∀ (σ' τ' : St) (H1 : Heap) (locs1 : List Loc), Inv σ' τ' → va_P D vwCl (xw ad cI cJ σ') H1 → va_P D vwCl (mw bd cI cZ τ') H1 → va_S (nwA s) s.heap H1 locs1 → W p l e room_1 s m #[Value.ref b] below meth c H1 locs1 49 60156 Q (F0 m 832 ls [])) : W p l e room_1 s m #[Value.ref b] below meth c H locs 49 60156 Q (F0 m 358 ls []) := by
  obtain ⟨hx, hb, -⟩ := id hC
  obtain ⟨hDx, hDm, ha1, ha2⟩ := id hDD
  obtain ⟨r, σ', τ', e1, e2, hI'⟩ := call_root hI (xs (i + 1))
  refine lv_aload_n hx hb dL_law_358 rfl (lv_at hl 1 rfl) ?_
  refine ldS hC hL hS (k := 1) (by omega) hl dL_law_359 dL_law_360 dL_law_361 rfl dL_law_362 dL_law_363 ?_
  refine cLaw (As := [.int (xs (i + 1))]) (rest := []) hC (k_LT_root l ad cI cJ cZ (Option.some.inj e1)) yy_X7_root tw_433 rfl rfl ⟨by decide, by decide⟩ hPx (hDx σ) hPm (ha1 σ τ) hS (q0 := 0) (ci := 7) rfl rfl (xwa_0 ..) rfl hl.1 rfl (Nat.le_of_ble_eq_true rfl) ⟨by decide, by decide⟩ dL_law_364 (fun H locs hPx hPm hS => ?_)
  refine lv_aload_n hx hb dL_law_367 rfl (lv_at hl 2 rfl) ?_
  refine ldS hC hL hS (k := 1) (by omega) hl dL_law_368 dL_law_369 dL_law_370 rfl dL_law_371 dL_law_372 ?_
  refine cLaw (As := [.int (xs (i + 1))]) (rest := [.int r]) hC (k_M_root l bd cI cJ cZ (Option.some.inj e2)) yy_X8_root tw_846 rfl rfl ⟨by decide, by decide⟩ hPm (hDm τ) hPx (ha2 σ' τ) hS (q0 := 0) (ci := 8) rfl rfl (mwa_0 ..) rfl hl.1 rfl (Nat.le_of_ble_eq_true rfl) ⟨by decide, by decide⟩ dL_law_373 (fun H locs hPm hPx hS => ?_)
  exact lv_icmp_eq (tgt := 832) hx hb dL_law_376 (by decide) (fun _ => kk σ' τ' _ _ hI' hPx hPm hS) (fun h => absurd rfl h)
set_option maxHeartbeats 4000000 in
set_option maxRecDepth 100000 in
theorem lc_7 (hC : LwC p s m meth c b L xs D cI cJ cZ) (hL : L ≤ 2560) (hDD : LwD s cI cJ cZ ad bd) (hi : i + 4 < L) (hl : lv_has ls 4 [(0, .ref b), (1, .ref (ad 0)), (2, .ref (bd 0)), (3, .int (nI i))]) (hI : Inv σ τ) (hPx : va_P D vwCl (xw ad cI cJ σ) H) (hPm : va_P D vwCl (mw bd cI cZ τ) H) (hS : va_S (nwA s) s.heap H locs) (kk : ∀ (σ' τ' : St) (H1 : Heap) (locs1 : List Loc), Inv σ' τ' → va_P D vwCl (xw ad cI cJ σ') H1 → va_P D vwCl (mw bd cI cZ τ') H1 → va_S (nwA s) s.heap H1 locs1 → W p l e room_1 s m #[Value.ref b] below meth c H1 locs1 49 60156 Q (F0 m 832 ls [])) : W p l e room_1 s m #[Value.ref b] below meth c H locs 49 60156 Q (F0 m 381 ls []) := by
  obtain ⟨hx, hb, -⟩ := id hC
  obtain ⟨hDx, hDm, ha1, ha2⟩ := id hDD
  obtain ⟨r, σ', τ', e1, e2, hI'⟩ := call_load hI (xs (i + 1))
  refine lv_aload_n hx hb dL_law_381 rfl (lv_at hl 1 rfl) ?_
  refine ldS hC hL hS (k := 1) (by omega) hl dL_law_382 dL_law_383 dL_law_384 rfl dL_law_385 dL_law_386 ?_
  refine cLaw (As := [.int (xs (i + 1))]) (rest := []) hC (k_LT_load l ad cI cJ cZ (Option.some.inj e1)) yy_X7_load tw_437 rfl rfl ⟨by decide, by decide⟩ hPx (hDx σ) hPm (ha1 σ τ) hS (q0 := 0) (ci := 7) rfl rfl (xwa_0 ..) rfl hl.1 rfl (Nat.le_of_ble_eq_true rfl) ⟨by decide, by decide⟩ dL_law_387 (fun H locs hPx hPm hS => ?_)
  refine lv_aload_n hx hb dL_law_390 rfl (lv_at hl 2 rfl) ?_
  refine ldS hC hL hS (k := 1) (by omega) hl dL_law_391 dL_law_392 dL_law_393 rfl dL_law_394 dL_law_395 ?_
  refine cLaw (As := [.int (xs (i + 1))]) (rest := [.int r]) hC (k_M_load l bd cI cJ cZ (Option.some.inj e2)) yy_X8_load tw_850 rfl rfl ⟨by decide, by decide⟩ hPm (hDm τ) hPx (ha2 σ' τ) hS (q0 := 0) (ci := 8) rfl rfl (mwa_0 ..) rfl hl.1 rfl (Nat.le_of_ble_eq_true rfl) ⟨by decide, by decide⟩ dL_law_396 (fun H locs hPm hPx hS => ?_)
  exact lv_icmp_eq (tgt := 832) hx hb dL_law_399 (by decide) (fun _ => kk σ' τ' _ _ hI' hPx hPm hS) (fun h => absurd rfl h)
set_option maxHeartbeats 4000000 in
set_option maxRecDepth 100000 in
theorem lc_8 (hC : LwC p s m meth c b L xs D cI cJ cZ) (hL : L ≤ 2560) (hDD : LwD s cI cJ cZ ad bd) (hi : i + 4 < L) (hl : lv_has ls 4 [(0, .ref b), (1, .ref (ad 0)), (2, .ref (bd 0)), (3, .int (nI i))]) (hI : Inv σ τ) (hPx : va_P D vwCl (xw ad cI cJ σ) H) (hPm : va_P D vwCl (mw bd cI cZ τ) H) (hS : va_S (nwA s) s.heap H locs) (kk : ∀ (σ' τ' : St) (H1 : Heap) (locs1 : List Loc), Inv σ' τ' → va_P D vwCl (xw ad cI cJ σ') H1 → va_P D vwCl (mw bd cI cZ τ') H1 → va_S (nwA s) s.heap H1 locs1 → W p l e room_1 s m #[Value.ref b] below meth c H1 locs1 49 60156 Q (F0 m 832 ls [])) : W p l e room_1 s m #[Value.ref b] below meth c H locs 49 60156 Q (F0 m 404 ls []) := by
  obtain ⟨hx, hb, -⟩ := id hC
  obtain ⟨hDx, hDm, ha1, ha2⟩ := id hDD
  obtain ⟨r, σ', τ', e1, e2, hI'⟩ := call_demand hI (N := 20000) (xs (i + 1)) (xs (i + 2))
  refine lv_aload_n hx hb dL_law_404 rfl (lv_at hl 1 rfl) ?_
  refine ldS hC hL hS (k := 1) (by omega) hl dL_law_405 dL_law_406 dL_law_407 rfl dL_law_408 dL_law_409 ?_
  refine ldS hC hL hS (k := 2) (by omega) hl dL_law_410 dL_law_411 dL_law_412 rfl dL_law_413 dL_law_414 ?_
  refine cLaw (As := [.int (xs (i + 1)), .int (xs (i + 2))]) (rest := []) hC (k_LT_demand l ad cI cJ cZ e1) yy_X7_demand tw_441 rfl rfl ⟨by decide, by decide⟩ hPx (hDx σ) hPm (ha1 σ τ) hS (q0 := 0) (ci := 7) rfl rfl (xwa_0 ..) rfl hl.1 rfl (Nat.le_of_ble_eq_true rfl) ⟨by decide, by decide⟩ dL_law_415 (fun H locs hPx hPm hS => ?_)
  refine lv_aload_n hx hb dL_law_418 rfl (lv_at hl 2 rfl) ?_
  refine ldS hC hL hS (k := 1) (by omega) hl dL_law_419 dL_law_420 dL_law_421 rfl dL_law_422 dL_law_423 ?_
  refine ldS hC hL hS (k := 2) (by omega) hl dL_law_424 dL_law_425 dL_law_426 rfl dL_law_427 dL_law_428 ?_
  refine cLaw (As := [.int (xs (i + 1)), .int (xs (i + 2))]) (rest := [.int r]) hC (k_M_demand l bd cI cJ cZ e2) yy_X8_demand tw_854 rfl rfl ⟨by decide, by decide⟩ hPm (hDm τ) hPx (ha2 σ' τ) hS (q0 := 0) (ci := 8) rfl rfl (mwa_0 ..) rfl hl.1 rfl (Nat.le_of_ble_eq_true rfl) ⟨by decide, by decide⟩ dL_law_429 (fun H locs hPm hPx hS => ?_)
  exact lv_icmp_eq (tgt := 832) hx hb dL_law_432 (by decide) (fun _ => kk σ' τ' _ _ hI' hPx hPm hS) (fun h => absurd rfl h)
set_option maxHeartbeats 4000000 in
set_option maxRecDepth 100000 in
theorem lc_9 (hC : LwC p s m meth c b L xs D cI cJ cZ) (hL : L ≤ 2560) (hDD : LwD s cI cJ cZ ad bd) (hi : i + 4 < L) (hl : lv_has ls 4 [(0, .ref b), (1, .ref (ad 0)), (2, .ref (bd 0)), (3, .int (nI i))]) (hI : Inv σ τ) (hPx : va_P D vwCl (xw ad cI cJ σ) H) (hPm : va_P D vwCl (mw bd cI cZ τ) H) (hS : va_S (nwA s) s.heap H locs) (kk : ∀ (σ' τ' : St) (H1 : Heap) (locs1 : List Loc), Inv σ' τ' → va_P D vwCl (xw ad cI cJ σ') H1 → va_P D vwCl (mw bd cI cZ τ') H1 → va_S (nwA s) s.heap H1 locs1 → W p l e room_1 s m #[Value.ref b] below meth c H1 locs1 49 60156 Q (F0 m 832 ls [])) : W p l e room_1 s m #[Value.ref b] below meth c H locs 49 60156 Q (F0 m 437 ls []) := by
  obtain ⟨hx, hb, -⟩ := id hC
  obtain ⟨hDx, hDm, ha1, ha2⟩ := id hDD
  obtain ⟨r, σ', τ', e1, e2, hI'⟩ := call_reds hI (xs (i + 1)) (xs (i + 2))
  refine lv_aload_n hx hb dL_law_437 rfl (lv_at hl 1 rfl) ?_
  refine ldS hC hL hS (k := 1) (by omega) hl dL_law_438 dL_law_439 dL_law_440 rfl dL_law_441 dL_law_442 ?_
  refine ldS hC hL hS (k := 2) (by omega) hl dL_law_443 dL_law_444 dL_law_445 rfl dL_law_446 dL_law_447 ?_
  refine cLaw (As := [.int (xs (i + 1)), .int (xs (i + 2))]) (rest := []) hC (k_LT_reds l ad cI cJ cZ (Option.some.inj e1)) yy_X7_reds tw_445 rfl rfl ⟨by decide, by decide⟩ hPx (hDx σ) hPm (ha1 σ τ) hS (q0 := 0) (ci := 7) rfl rfl (xwa_0 ..) rfl hl.1 rfl (Nat.le_of_ble_eq_true rfl) ⟨by decide, by decide⟩ dL_law_448 (fun H locs hPx hPm hS => ?_)
  refine lv_aload_n hx hb dL_law_451 rfl (lv_at hl 2 rfl) ?_
  refine ldS hC hL hS (k := 1) (by omega) hl dL_law_452 dL_law_453 dL_law_454 rfl dL_law_455 dL_law_456 ?_
  refine ldS hC hL hS (k := 2) (by omega) hl dL_law_457 dL_law_458 dL_law_459 rfl dL_law_460 dL_law_461 ?_
  refine cLaw (As := [.int (xs (i + 1)), .int (xs (i + 2))]) (rest := [.int r]) hC (k_M_reds l bd cI cJ cZ (Option.some.inj e2)) yy_X8_reds tw_858 rfl rfl ⟨by decide, by decide⟩ hPm (hDm τ) hPx (ha2 σ' τ) hS (q0 := 0) (ci := 8) rfl rfl (mwa_0 ..) rfl hl.1 rfl (Nat.le_of_ble_eq_true rfl) ⟨by decide, by decide⟩ dL_law_462 (fun H locs hPm hPx hS => ?_)
  exact lv_icmp_eq (tgt := 832) hx hb dL_law_465 (by decide) (fun _ => kk σ' τ' _ _ hI' hPx hPm hS) (fun h => absurd rfl h)
set_option maxHeartbeats 4000000 in
set_option maxRecDepth 100000 in
theorem lc_10 (hC : LwC p s m meth c b L xs D cI cJ cZ) (hL : L ≤ 2560) (hDD : LwD s cI cJ cZ ad bd) (hi : i + 4 < L) (hl : lv_has ls 4 [(0, .ref b), (1, .ref (ad 0)), (2, .ref (bd 0)), (3, .int (nI i))]) (hI : Inv σ τ) (hPx : va_P D vwCl (xw ad cI cJ σ) H) (hPm : va_P D vwCl (mw bd cI cZ τ) H) (hS : va_S (nwA s) s.heap H locs) (kk : ∀ (σ' τ' : St) (H1 : Heap) (locs1 : List Loc), Inv σ' τ' → va_P D vwCl (xw ad cI cJ σ') H1 → va_P D vwCl (mw bd cI cZ τ') H1 → va_S (nwA s) s.heap H1 locs1 → W p l e room_1 s m #[Value.ref b] below meth c H1 locs1 49 60156 Q (F0 m 832 ls [])) : W p l e room_1 s m #[Value.ref b] below meth c H locs 49 60156 Q (F0 m 470 ls []) := by
  obtain ⟨hx, hb, -⟩ := id hC
  obtain ⟨hDx, hDm, ha1, ha2⟩ := id hDD
  obtain ⟨r, σ', τ', e1, e2, hI'⟩ := call_way hI (xs (i + 1))
  refine lv_aload_n hx hb dL_law_470 rfl (lv_at hl 1 rfl) ?_
  refine ldS hC hL hS (k := 1) (by omega) hl dL_law_471 dL_law_472 dL_law_473 rfl dL_law_474 dL_law_475 ?_
  refine cLaw (As := [.int (xs (i + 1))]) (rest := []) hC (k_LT_way l ad cI cJ cZ (Option.some.inj e1)) yy_X7_way tw_449 rfl rfl ⟨by decide, by decide⟩ hPx (hDx σ) hPm (ha1 σ τ) hS (q0 := 0) (ci := 7) rfl rfl (xwa_0 ..) rfl hl.1 rfl (Nat.le_of_ble_eq_true rfl) ⟨by decide, by decide⟩ dL_law_476 (fun H locs hPx hPm hS => ?_)
  refine lv_aload_n hx hb dL_law_479 rfl (lv_at hl 2 rfl) ?_
  refine ldS hC hL hS (k := 1) (by omega) hl dL_law_480 dL_law_481 dL_law_482 rfl dL_law_483 dL_law_484 ?_
  refine cLaw (As := [.int (xs (i + 1))]) (rest := [.int r]) hC (k_M_way l bd cI cJ cZ (Option.some.inj e2)) yy_X8_way tw_862 rfl rfl ⟨by decide, by decide⟩ hPm (hDm τ) hPx (ha2 σ' τ) hS (q0 := 0) (ci := 8) rfl rfl (mwa_0 ..) rfl hl.1 rfl (Nat.le_of_ble_eq_true rfl) ⟨by decide, by decide⟩ dL_law_485 (fun H locs hPm hPx hS => ?_)
  exact lv_icmp_eq (tgt := 832) hx hb dL_law_488 (by decide) (fun _ => kk σ' τ' _ _ hI' hPx hPm hS) (fun h => absurd rfl h)
set_option maxHeartbeats 4000000 in
set_option maxRecDepth 100000 in
theorem lc_11 (hC : LwC p s m meth c b L xs D cI cJ cZ) (hL : L ≤ 2560) (hDD : LwD s cI cJ cZ ad bd) (hi : i + 4 < L) (hl : lv_has ls 4 [(0, .ref b), (1, .ref (ad 0)), (2, .ref (bd 0)), (3, .int (nI i))]) (hI : Inv σ τ) (hPx : va_P D vwCl (xw ad cI cJ σ) H) (hPm : va_P D vwCl (mw bd cI cZ τ) H) (hS : va_S (nwA s) s.heap H locs) (kk : ∀ (σ' τ' : St) (H1 : Heap) (locs1 : List Loc), Inv σ' τ' → va_P D vwCl (xw ad cI cJ σ') H1 → va_P D vwCl (mw bd cI cZ τ') H1 → va_S (nwA s) s.heap H1 locs1 → W p l e room_1 s m #[Value.ref b] below meth c H1 locs1 49 60156 Q (F0 m 832 ls [])) : W p l e room_1 s m #[Value.ref b] below meth c H locs 49 60156 Q (F0 m 493 ls []) := by
  obtain ⟨hx, hb, -⟩ := id hC
  obtain ⟨hDx, hDm, ha1, ha2⟩ := id hDD
  obtain ⟨r, σ', τ', e1, e2, hI'⟩ := call_tree hI (N := 20000) (by decide) (xs (i + 1))
  refine lv_aload_n hx hb dL_law_493 rfl (lv_at hl 1 rfl) ?_
  refine ldS hC hL hS (k := 1) (by omega) hl dL_law_494 dL_law_495 dL_law_496 rfl dL_law_497 dL_law_498 ?_
  refine cLaw (As := [.int (xs (i + 1))]) (rest := []) hC (k_LT_tree l ad cI cJ cZ e1) yy_X7_tree tw_453 rfl rfl ⟨by decide, by decide⟩ hPx (hDx σ) hPm (ha1 σ τ) hS (q0 := 0) (ci := 7) rfl rfl (xwa_0 ..) rfl hl.1 rfl (Nat.le_of_ble_eq_true rfl) ⟨by decide, by decide⟩ dL_law_499 (fun H locs hPx hPm hS => ?_)
  refine lv_aload_n hx hb dL_law_502 rfl (lv_at hl 2 rfl) ?_
  refine ldS hC hL hS (k := 1) (by omega) hl dL_law_503 dL_law_504 dL_law_505 rfl dL_law_506 dL_law_507 ?_
  refine cLaw (As := [.int (xs (i + 1))]) (rest := [.int r]) hC (k_M_tree l bd cI cJ cZ e2) yy_X8_tree tw_866 rfl rfl ⟨by decide, by decide⟩ hPm (hDm τ) hPx (ha2 σ' τ) hS (q0 := 0) (ci := 8) rfl rfl (mwa_0 ..) rfl hl.1 rfl (Nat.le_of_ble_eq_true rfl) ⟨by decide, by decide⟩ dL_law_508 (fun H locs hPm hPx hS => ?_)
  exact lv_icmp_eq (tgt := 832) hx hb dL_law_511 (by decide) (fun _ => kk σ' τ' _ _ hI' hPx hPm hS) (fun h => absurd rfl h)
set_option maxHeartbeats 4000000 in
set_option maxRecDepth 100000 in
theorem lc_12 (hC : LwC p s m meth c b L xs D cI cJ cZ) (hL : L ≤ 2560) (hDD : LwD s cI cJ cZ ad bd) (hi : i + 4 < L) (hl : lv_has ls 4 [(0, .ref b), (1, .ref (ad 0)), (2, .ref (bd 0)), (3, .int (nI i))]) (hI : Inv σ τ) (hPx : va_P D vwCl (xw ad cI cJ σ) H) (hPm : va_P D vwCl (mw bd cI cZ τ) H) (hS : va_S (nwA s) s.heap H locs) (kk : ∀ (σ' τ' : St) (H1 : Heap) (locs1 : List Loc), Inv σ' τ' → va_P D vwCl (xw ad cI cJ σ') H1 → va_P D vwCl (mw bd cI cZ τ') H1 → va_S (nwA s) s.heap H1 locs1 → W p l e room_1 s m #[Value.ref b] below meth c H1 locs1 49 60156 Q (F0 m 832 ls [])) : W p l e room_1 s m #[Value.ref b] below meth c H locs 49 60156 Q (F0 m 516 ls []) := by
  obtain ⟨hx, hb, -⟩ := id hC
  obtain ⟨hDx, hDm, ha1, ha2⟩ := id hDD
  obtain ⟨r, σ', τ', e1, e2, hI'⟩ := call_breaks hI (N := 20000) (by decide) (xs (i + 1))
  refine lv_aload_n hx hb dL_law_516 rfl (lv_at hl 1 rfl) ?_
  refine ldS hC hL hS (k := 1) (by omega) hl dL_law_517 dL_law_518 dL_law_519 rfl dL_law_520 dL_law_521 ?_
  refine cLaw (As := [.int (xs (i + 1))]) (rest := []) hC (k_LT_breaks l ad cI cJ cZ e1) yy_X7_breaks tw_511 rfl rfl ⟨by decide, by decide⟩ hPx (hDx σ) hPm (ha1 σ τ) hS (q0 := 0) (ci := 7) rfl rfl (xwa_0 ..) rfl hl.1 rfl (Nat.le_of_ble_eq_true rfl) ⟨by decide, by decide⟩ dL_law_522 (fun H locs hPx hPm hS => ?_)
  refine lv_aload_n hx hb dL_law_525 rfl (lv_at hl 2 rfl) ?_
  refine ldS hC hL hS (k := 1) (by omega) hl dL_law_526 dL_law_527 dL_law_528 rfl dL_law_529 dL_law_530 ?_
  refine cLaw (As := [.int (xs (i + 1))]) (rest := [.int r]) hC (k_M_breaks l bd cI cJ cZ e2) yy_X8_breaks tw_888 rfl rfl ⟨by decide, by decide⟩ hPm (hDm τ) hPx (ha2 σ' τ) hS (q0 := 0) (ci := 8) rfl rfl (mwa_0 ..) rfl hl.1 rfl (Nat.le_of_ble_eq_true rfl) ⟨by decide, by decide⟩ dL_law_531 (fun H locs hPm hPx hS => ?_)
  exact lv_icmp_eq (tgt := 832) hx hb dL_law_534 (by decide) (fun _ => kk σ' τ' _ _ hI' hPx hPm hS) (fun h => absurd rfl h)
set_option maxHeartbeats 4000000 in
set_option maxRecDepth 100000 in
theorem lc_13 (hC : LwC p s m meth c b L xs D cI cJ cZ) (hL : L ≤ 2560) (hDD : LwD s cI cJ cZ ad bd) (hi : i + 4 < L) (hl : lv_has ls 4 [(0, .ref b), (1, .ref (ad 0)), (2, .ref (bd 0)), (3, .int (nI i))]) (hI : Inv σ τ) (hPx : va_P D vwCl (xw ad cI cJ σ) H) (hPm : va_P D vwCl (mw bd cI cZ τ) H) (hS : va_S (nwA s) s.heap H locs) (kk : ∀ (σ' τ' : St) (H1 : Heap) (locs1 : List Loc), Inv σ' τ' → va_P D vwCl (xw ad cI cJ σ') H1 → va_P D vwCl (mw bd cI cZ τ') H1 → va_S (nwA s) s.heap H1 locs1 → W p l e room_1 s m #[Value.ref b] below meth c H1 locs1 49 60156 Q (F0 m 832 ls [])) : W p l e room_1 s m #[Value.ref b] below meth c H locs 49 60156 Q (F0 m 539 ls []) := by
  obtain ⟨hx, hb, -⟩ := id hC
  obtain ⟨hDx, hDm, ha1, ha2⟩ := id hDD
  obtain ⟨r, σ', τ', e1, e2, hI'⟩ := call_measure hI (N := 20000) (by decide) (xs (i + 1)) (xs (i + 2))
  refine lv_aload_n hx hb dL_law_539 rfl (lv_at hl 1 rfl) ?_
  refine ldS hC hL hS (k := 1) (by omega) hl dL_law_540 dL_law_541 dL_law_542 rfl dL_law_543 dL_law_544 ?_
  refine ldS hC hL hS (k := 2) (by omega) hl dL_law_545 dL_law_546 dL_law_547 rfl dL_law_548 dL_law_549 ?_
  refine cLaw (As := [.int (xs (i + 1)), .int (xs (i + 2))]) (rest := []) hC (k_LT_measure l ad cI cJ cZ e1) yy_X7_measure tw_550 rfl rfl ⟨by decide, by decide⟩ hPx (hDx σ) hPm (ha1 σ τ) hS (q0 := 0) (ci := 7) rfl rfl (xwa_0 ..) rfl hl.1 rfl (Nat.le_of_ble_eq_true rfl) ⟨by decide, by decide⟩ dL_law_550 (fun H locs hPx hPm hS => ?_)
  refine lv_aload_n hx hb dL_law_553 rfl (lv_at hl 2 rfl) ?_
  refine ldS hC hL hS (k := 1) (by omega) hl dL_law_554 dL_law_555 dL_law_556 rfl dL_law_557 dL_law_558 ?_
  refine ldS hC hL hS (k := 2) (by omega) hl dL_law_559 dL_law_560 dL_law_561 rfl dL_law_562 dL_law_563 ?_
  refine cLaw (As := [.int (xs (i + 1)), .int (xs (i + 2))]) (rest := [.int r]) hC (k_M_measure l bd cI cJ cZ e2) yy_X8_measure tw_904 rfl rfl ⟨by decide, by decide⟩ hPm (hDm τ) hPx (ha2 σ' τ) hS (q0 := 0) (ci := 8) rfl rfl (mwa_0 ..) rfl hl.1 rfl (Nat.le_of_ble_eq_true rfl) ⟨by decide, by decide⟩ dL_law_564 (fun H locs hPm hPx hS => ?_)
  exact lv_icmp_eq (tgt := 832) hx hb dL_law_567 (by decide) (fun _ => kk σ' τ' _ _ hI' hPx hPm hS) (fun h => absurd rfl h)
set_option maxHeartbeats 4000000 in
set_option maxRecDepth 100000 in
theorem lc_14 (hC : LwC p s m meth c b L xs D cI cJ cZ) (hL : L ≤ 2560) (hDD : LwD s cI cJ cZ ad bd) (hi : i + 4 < L) (hl : lv_has ls 4 [(0, .ref b), (1, .ref (ad 0)), (2, .ref (bd 0)), (3, .int (nI i))]) (hI : Inv σ τ) (hPx : va_P D vwCl (xw ad cI cJ σ) H) (hPm : va_P D vwCl (mw bd cI cZ τ) H) (hS : va_S (nwA s) s.heap H locs) (kk : ∀ (σ' τ' : St) (H1 : Heap) (locs1 : List Loc), Inv σ' τ' → va_P D vwCl (xw ad cI cJ σ') H1 → va_P D vwCl (mw bd cI cZ τ') H1 → va_S (nwA s) s.heap H1 locs1 → W p l e room_1 s m #[Value.ref b] below meth c H1 locs1 49 60156 Q (F0 m 832 ls [])) : W p l e room_1 s m #[Value.ref b] below meth c H locs 49 60156 Q (F0 m 572 ls []) := by
  obtain ⟨hx, hb, -⟩ := id hC
  obtain ⟨hDx, hDm, ha1, ha2⟩ := id hDD
  obtain ⟨r, σ', τ', e1, e2, hI'⟩ := call_many hI (N := 20000) (by decide)
  refine lv_aload_n hx hb dL_law_572 rfl (lv_at hl 1 rfl) ?_
  refine cLaw (As := []) (rest := []) hC (k_LT_many l ad cI cJ cZ e1) yy_X7_many tw_560 rfl rfl ⟨by decide, by decide⟩ hPx (hDx σ) hPm (ha1 σ τ) hS (q0 := 0) (ci := 7) rfl rfl (xwa_0 ..) rfl hl.1 rfl (Nat.le_of_ble_eq_true rfl) ⟨by decide, by decide⟩ dL_law_573 (fun H locs hPx hPm hS => ?_)
  refine lv_aload_n hx hb dL_law_576 rfl (lv_at hl 2 rfl) ?_
  refine cLaw (As := []) (rest := [.int r]) hC (k_M_many l bd cI cJ cZ e2) yy_X8_many tw_908 rfl rfl ⟨by decide, by decide⟩ hPm (hDm τ) hPx (ha2 σ' τ) hS (q0 := 0) (ci := 8) rfl rfl (mwa_0 ..) rfl hl.1 rfl (Nat.le_of_ble_eq_true rfl) ⟨by decide, by decide⟩ dL_law_577 (fun H locs hPm hPx hS => ?_)
  exact lv_icmp_eq (tgt := 832) hx hb dL_law_580 (by decide) (fun _ => kk σ' τ' _ _ hI' hPx hPm hS) (fun h => absurd rfl h)
set_option maxHeartbeats 4000000 in
set_option maxRecDepth 100000 in
theorem lc_15 (hC : LwC p s m meth c b L xs D cI cJ cZ) (hL : L ≤ 2560) (hDD : LwD s cI cJ cZ ad bd) (hi : i + 4 < L) (hl : lv_has ls 4 [(0, .ref b), (1, .ref (ad 0)), (2, .ref (bd 0)), (3, .int (nI i))]) (hI : Inv σ τ) (hPx : va_P D vwCl (xw ad cI cJ σ) H) (hPm : va_P D vwCl (mw bd cI cZ τ) H) (hS : va_S (nwA s) s.heap H locs) (kk : ∀ (σ' τ' : St) (H1 : Heap) (locs1 : List Loc), Inv σ' τ' → va_P D vwCl (xw ad cI cJ σ') H1 → va_P D vwCl (mw bd cI cZ τ') H1 → va_S (nwA s) s.heap H1 locs1 → W p l e room_1 s m #[Value.ref b] below meth c H1 locs1 49 60156 Q (F0 m 832 ls [])) : W p l e room_1 s m #[Value.ref b] below meth c H locs 49 60156 Q (F0 m 585 ls []) := by
  obtain ⟨hx, hb, -⟩ := id hC
  obtain ⟨hDx, hDm, ha1, ha2⟩ := id hDD
  obtain ⟨r, σ', τ', e1, e2, hI'⟩ := call_good hI (N := 20000) (by decide) (xs (i + 1))
  refine lv_aload_n hx hb dL_law_585 rfl (lv_at hl 1 rfl) ?_
  refine ldS hC hL hS (k := 1) (by omega) hl dL_law_586 dL_law_587 dL_law_588 rfl dL_law_589 dL_law_590 ?_
  refine cLaw (As := [.int (xs (i + 1))]) (rest := []) hC (k_LT_good l ad cI cJ cZ e1) yy_X7_good tw_590 rfl rfl ⟨by decide, by decide⟩ hPx (hDx σ) hPm (ha1 σ τ) hS (q0 := 0) (ci := 7) rfl rfl (xwa_0 ..) rfl hl.1 rfl (Nat.le_of_ble_eq_true rfl) ⟨by decide, by decide⟩ dL_law_591 (fun H locs hPx hPm hS => ?_)
  refine lv_aload_n hx hb dL_law_594 rfl (lv_at hl 2 rfl) ?_
  refine ldS hC hL hS (k := 1) (by omega) hl dL_law_595 dL_law_596 dL_law_597 rfl dL_law_598 dL_law_599 ?_
  refine cLaw (As := [.int (xs (i + 1))]) (rest := [.int r]) hC (k_M_good l bd cI cJ cZ e2) yy_X8_good tw_920 rfl rfl ⟨by decide, by decide⟩ hPm (hDm τ) hPx (ha2 σ' τ) hS (q0 := 0) (ci := 8) rfl rfl (mwa_0 ..) rfl hl.1 rfl (Nat.le_of_ble_eq_true rfl) ⟨by decide, by decide⟩ dL_law_600 (fun H locs hPm hPx hS => ?_)
  exact lv_icmp_eq (tgt := 832) hx hb dL_law_603 (by decide) (fun _ => kk σ' τ' _ _ hI' hPx hPm hS) (fun h => absurd rfl h)
set_option maxHeartbeats 4000000 in
set_option maxRecDepth 100000 in
theorem lc_16 (hC : LwC p s m meth c b L xs D cI cJ cZ) (hL : L ≤ 2560) (hDD : LwD s cI cJ cZ ad bd) (hi : i + 4 < L) (hl : lv_has ls 4 [(0, .ref b), (1, .ref (ad 0)), (2, .ref (bd 0)), (3, .int (nI i))]) (hI : Inv σ τ) (hPx : va_P D vwCl (xw ad cI cJ σ) H) (hPm : va_P D vwCl (mw bd cI cZ τ) H) (hS : va_S (nwA s) s.heap H locs) (kk : ∀ (σ' τ' : St) (H1 : Heap) (locs1 : List Loc), Inv σ' τ' → va_P D vwCl (xw ad cI cJ σ') H1 → va_P D vwCl (mw bd cI cZ τ') H1 → va_S (nwA s) s.heap H1 locs1 → W p l e room_1 s m #[Value.ref b] below meth c H1 locs1 49 60156 Q (F0 m 832 ls [])) : W p l e room_1 s m #[Value.ref b] below meth c H locs 49 60156 Q (F0 m 608 ls []) := by
  obtain ⟨hx, hb, -⟩ := id hC
  obtain ⟨hDx, hDm, ha1, ha2⟩ := id hDD
  obtain ⟨r, σ', τ', e1, e2, hI'⟩ := call_ranked hI (N := 20000) (by decide) (xs (i + 1))
  refine lv_aload_n hx hb dL_law_608 rfl (lv_at hl 1 rfl) ?_
  refine ldS hC hL hS (k := 1) (by omega) hl dL_law_609 dL_law_610 dL_law_611 rfl dL_law_612 dL_law_613 ?_
  refine cLaw (As := [.int (xs (i + 1))]) (rest := []) hC (k_LT_ranked l ad cI cJ cZ e1) yy_X7_ranked tw_594 rfl rfl ⟨by decide, by decide⟩ hPx (hDx σ) hPm (ha1 σ τ) hS (q0 := 0) (ci := 7) rfl rfl (xwa_0 ..) rfl hl.1 rfl (Nat.le_of_ble_eq_true rfl) ⟨by decide, by decide⟩ dL_law_614 (fun H locs hPx hPm hS => ?_)
  refine lv_aload_n hx hb dL_law_617 rfl (lv_at hl 2 rfl) ?_
  refine ldS hC hL hS (k := 1) (by omega) hl dL_law_618 dL_law_619 dL_law_620 rfl dL_law_621 dL_law_622 ?_
  refine cLaw (As := [.int (xs (i + 1))]) (rest := [.int r]) hC (k_M_ranked l bd cI cJ cZ e2) yy_X8_ranked tw_924 rfl rfl ⟨by decide, by decide⟩ hPm (hDm τ) hPx (ha2 σ' τ) hS (q0 := 0) (ci := 8) rfl rfl (mwa_0 ..) rfl hl.1 rfl (Nat.le_of_ble_eq_true rfl) ⟨by decide, by decide⟩ dL_law_623 (fun H locs hPm hPx hS => ?_)
  exact lv_icmp_eq (tgt := 832) hx hb dL_law_626 (by decide) (fun _ => kk σ' τ' _ _ hI' hPx hPm hS) (fun h => absurd rfl h)
set_option maxHeartbeats 4000000 in
set_option maxRecDepth 100000 in
theorem lc_17 (hC : LwC p s m meth c b L xs D cI cJ cZ) (hL : L ≤ 2560) (hDD : LwD s cI cJ cZ ad bd) (hi : i + 4 < L) (hl : lv_has ls 4 [(0, .ref b), (1, .ref (ad 0)), (2, .ref (bd 0)), (3, .int (nI i))]) (hI : Inv σ τ) (hPx : va_P D vwCl (xw ad cI cJ σ) H) (hPm : va_P D vwCl (mw bd cI cZ τ) H) (hS : va_S (nwA s) s.heap H locs) (kk : ∀ (σ' τ' : St) (H1 : Heap) (locs1 : List Loc), Inv σ' τ' → va_P D vwCl (xw ad cI cJ σ') H1 → va_P D vwCl (mw bd cI cZ τ') H1 → va_S (nwA s) s.heap H1 locs1 → W p l e room_1 s m #[Value.ref b] below meth c H1 locs1 49 60156 Q (F0 m 832 ls [])) : W p l e room_1 s m #[Value.ref b] below meth c H locs 49 60156 Q (F0 m 631 ls []) := by
  obtain ⟨hx, hb, -⟩ := id hC
  obtain ⟨hDx, hDm, ha1, ha2⟩ := id hDD
  obtain ⟨r, σ', τ', e1, e2, hI'⟩ := call_slack hI (N := 20000) (by decide) (xs (i + 1))
  refine lv_aload_n hx hb dL_law_631 rfl (lv_at hl 1 rfl) ?_
  refine ldS hC hL hS (k := 1) (by omega) hl dL_law_632 dL_law_633 dL_law_634 rfl dL_law_635 dL_law_636 ?_
  refine cLaw (As := [.int (xs (i + 1))]) (rest := []) hC (k_LT_slack l ad cI cJ cZ e1) yy_X7_slack tw_611 rfl rfl ⟨by decide, by decide⟩ hPx (hDx σ) hPm (ha1 σ τ) hS (q0 := 0) (ci := 7) rfl rfl (xwa_0 ..) rfl hl.1 rfl (Nat.le_of_ble_eq_true rfl) ⟨by decide, by decide⟩ dL_law_637 (fun H locs hPx hPm hS => ?_)
  refine lv_aload_n hx hb dL_law_640 rfl (lv_at hl 2 rfl) ?_
  refine ldS hC hL hS (k := 1) (by omega) hl dL_law_641 dL_law_642 dL_law_643 rfl dL_law_644 dL_law_645 ?_
  refine cLaw (As := [.int (xs (i + 1))]) (rest := [.int r]) hC (k_M_slack l bd cI cJ cZ e2) yy_X8_slack tw_928 rfl rfl ⟨by decide, by decide⟩ hPm (hDm τ) hPx (ha2 σ' τ) hS (q0 := 0) (ci := 8) rfl rfl (mwa_0 ..) rfl hl.1 rfl (Nat.le_of_ble_eq_true rfl) ⟨by decide, by decide⟩ dL_law_646 (fun H locs hPm hPx hS => ?_)
  exact lv_icmp_eq (tgt := 832) hx hb dL_law_649 (by decide) (fun _ => kk σ' τ' _ _ hI' hPx hPm hS) (fun h => absurd rfl h)
set_option maxHeartbeats 4000000 in
set_option maxRecDepth 100000 in
theorem lc_18 (hC : LwC p s m meth c b L xs D cI cJ cZ) (hL : L ≤ 2560) (hDD : LwD s cI cJ cZ ad bd) (hi : i + 4 < L) (hl : lv_has ls 4 [(0, .ref b), (1, .ref (ad 0)), (2, .ref (bd 0)), (3, .int (nI i))]) (hI : Inv σ τ) (hPx : va_P D vwCl (xw ad cI cJ σ) H) (hPm : va_P D vwCl (mw bd cI cZ τ) H) (hS : va_S (nwA s) s.heap H locs) (kk : ∀ (σ' τ' : St) (H1 : Heap) (locs1 : List Loc), Inv σ' τ' → va_P D vwCl (xw ad cI cJ σ') H1 → va_P D vwCl (mw bd cI cZ τ') H1 → va_S (nwA s) s.heap H1 locs1 → W p l e room_1 s m #[Value.ref b] below meth c H1 locs1 49 60156 Q (F0 m 832 ls [])) : W p l e room_1 s m #[Value.ref b] below meth c H locs 49 60156 Q (F0 m 654 ls []) := by
  obtain ⟨hx, hb, -⟩ := id hC
  obtain ⟨hDx, hDm, ha1, ha2⟩ := id hDD
  obtain ⟨r, σ', τ', e1, e2, hI'⟩ := call_bar hI (N := 20000) (by decide)
  refine lv_aload_n hx hb dL_law_654 rfl (lv_at hl 1 rfl) ?_
  refine cLaw (As := []) (rest := []) hC (k_LT_bar l ad cI cJ cZ e1) yy_X7_bar tw_620 rfl rfl ⟨by decide, by decide⟩ hPx (hDx σ) hPm (ha1 σ τ) hS (q0 := 0) (ci := 7) rfl rfl (xwa_0 ..) rfl hl.1 rfl (Nat.le_of_ble_eq_true rfl) ⟨by decide, by decide⟩ dL_law_655 (fun H locs hPx hPm hS => ?_)
  refine lv_aload_n hx hb dL_law_658 rfl (lv_at hl 2 rfl) ?_
  refine cLaw (As := []) (rest := [.int r]) hC (k_M_bar l bd cI cJ cZ e2) yy_X8_bar tw_936 rfl rfl ⟨by decide, by decide⟩ hPm (hDm τ) hPx (ha2 σ' τ) hS (q0 := 0) (ci := 8) rfl rfl (mwa_0 ..) rfl hl.1 rfl (Nat.le_of_ble_eq_true rfl) ⟨by decide, by decide⟩ dL_law_659 (fun H locs hPm hPx hS => ?_)
  exact lv_icmp_eq (tgt := 832) hx hb dL_law_662 (by decide) (fun _ => kk σ' τ' _ _ hI' hPx hPm hS) (fun h => absurd rfl h)
set_option maxHeartbeats 4000000 in
set_option maxRecDepth 100000 in
theorem lc_19 (hC : LwC p s m meth c b L xs D cI cJ cZ) (hL : L ≤ 2560) (hDD : LwD s cI cJ cZ ad bd) (hi : i + 4 < L) (hl : lv_has ls 4 [(0, .ref b), (1, .ref (ad 0)), (2, .ref (bd 0)), (3, .int (nI i))]) (hI : Inv σ τ) (hPx : va_P D vwCl (xw ad cI cJ σ) H) (hPm : va_P D vwCl (mw bd cI cZ τ) H) (hS : va_S (nwA s) s.heap H locs) (kk : ∀ (σ' τ' : St) (H1 : Heap) (locs1 : List Loc), Inv σ' τ' → va_P D vwCl (xw ad cI cJ σ') H1 → va_P D vwCl (mw bd cI cZ τ') H1 → va_S (nwA s) s.heap H1 locs1 → W p l e room_1 s m #[Value.ref b] below meth c H1 locs1 49 60156 Q (F0 m 832 ls [])) : W p l e room_1 s m #[Value.ref b] below meth c H locs 49 60156 Q (F0 m 667 ls []) := by
  obtain ⟨hx, hb, -⟩ := id hC
  obtain ⟨hDx, hDm, ha1, ha2⟩ := id hDD
  obtain ⟨r, σ', τ', e1, e2, hI'⟩ := call_front hI (N := 20000) (by decide) (xs (i + 1)) (xs (i + 2))
  refine lv_aload_n hx hb dL_law_667 rfl (lv_at hl 1 rfl) ?_
  refine ldS hC hL hS (k := 1) (by omega) hl dL_law_668 dL_law_669 dL_law_670 rfl dL_law_671 dL_law_672 ?_
  refine ldS hC hL hS (k := 2) (by omega) hl dL_law_673 dL_law_674 dL_law_675 rfl dL_law_676 dL_law_677 ?_
  refine cLaw (As := [.int (xs (i + 1)), .int (xs (i + 2))]) (rest := []) hC (k_LT_front l ad cI cJ cZ e1) yy_X7_front tw_633 rfl rfl ⟨by decide, by decide⟩ hPx (hDx σ) hPm (ha1 σ τ) hS (q0 := 0) (ci := 7) rfl rfl (xwa_0 ..) rfl hl.1 rfl (Nat.le_of_ble_eq_true rfl) ⟨by decide, by decide⟩ dL_law_678 (fun H locs hPx hPm hS => ?_)
  refine lv_aload_n hx hb dL_law_681 rfl (lv_at hl 2 rfl) ?_
  refine ldS hC hL hS (k := 1) (by omega) hl dL_law_682 dL_law_683 dL_law_684 rfl dL_law_685 dL_law_686 ?_
  refine ldS hC hL hS (k := 2) (by omega) hl dL_law_687 dL_law_688 dL_law_689 rfl dL_law_690 dL_law_691 ?_
  refine cLaw (As := [.int (xs (i + 1)), .int (xs (i + 2))]) (rest := [.int r]) hC (k_M_front l bd cI cJ cZ e2) yy_X8_front tw_940 rfl rfl ⟨by decide, by decide⟩ hPm (hDm τ) hPx (ha2 σ' τ) hS (q0 := 0) (ci := 8) rfl rfl (mwa_0 ..) rfl hl.1 rfl (Nat.le_of_ble_eq_true rfl) ⟨by decide, by decide⟩ dL_law_692 (fun H locs hPm hPx hS => ?_)
  exact lv_icmp_eq (tgt := 832) hx hb dL_law_695 (by decide) (fun _ => kk σ' τ' _ _ hI' hPx hPm hS) (fun h => absurd rfl h)
set_option maxHeartbeats 4000000 in
set_option maxRecDepth 100000 in
theorem lc_20 (hC : LwC p s m meth c b L xs D cI cJ cZ) (hL : L ≤ 2560) (hDD : LwD s cI cJ cZ ad bd) (hi : i + 4 < L) (hl : lv_has ls 4 [(0, .ref b), (1, .ref (ad 0)), (2, .ref (bd 0)), (3, .int (nI i))]) (hI : Inv σ τ) (hPx : va_P D vwCl (xw ad cI cJ σ) H) (hPm : va_P D vwCl (mw bd cI cZ τ) H) (hS : va_S (nwA s) s.heap H locs) (kk : ∀ (σ' τ' : St) (H1 : Heap) (locs1 : List Loc), Inv σ' τ' → va_P D vwCl (xw ad cI cJ σ') H1 → va_P D vwCl (mw bd cI cZ τ') H1 → va_S (nwA s) s.heap H1 locs1 → W p l e room_1 s m #[Value.ref b] below meth c H1 locs1 49 60156 Q (F0 m 832 ls [])) : W p l e room_1 s m #[Value.ref b] below meth c H locs 49 60156 Q (F0 m 700 ls []) := by
  obtain ⟨hx, hb, -⟩ := id hC
  obtain ⟨hDx, hDm, ha1, ha2⟩ := id hDD
  obtain ⟨r, σ', τ', e1, e2, hI'⟩ := call_swaps hI (N := 20000) (by decide) (xs (i + 1)) (xs (i + 2))
  refine lv_aload_n hx hb dL_law_700 rfl (lv_at hl 1 rfl) ?_
  refine ldS hC hL hS (k := 1) (by omega) hl dL_law_701 dL_law_702 dL_law_703 rfl dL_law_704 dL_law_705 ?_
  refine ldS hC hL hS (k := 2) (by omega) hl dL_law_706 dL_law_707 dL_law_708 rfl dL_law_709 dL_law_710 ?_
  refine cLaw (As := [.int (xs (i + 1)), .int (xs (i + 2))]) (rest := []) hC (k_LT_swaps l ad cI cJ cZ e1) yy_X7_swaps tw_641 rfl rfl ⟨by decide, by decide⟩ hPx (hDx σ) hPm (ha1 σ τ) hS (q0 := 0) (ci := 7) rfl rfl (xwa_0 ..) rfl hl.1 rfl (Nat.le_of_ble_eq_true rfl) ⟨by decide, by decide⟩ dL_law_711 (fun H locs hPx hPm hS => ?_)
  refine lv_aload_n hx hb dL_law_714 rfl (lv_at hl 2 rfl) ?_
  refine ldS hC hL hS (k := 1) (by omega) hl dL_law_715 dL_law_716 dL_law_717 rfl dL_law_718 dL_law_719 ?_
  refine ldS hC hL hS (k := 2) (by omega) hl dL_law_720 dL_law_721 dL_law_722 rfl dL_law_723 dL_law_724 ?_
  refine cLaw (As := [.int (xs (i + 1)), .int (xs (i + 2))]) (rest := [.int r]) hC (k_M_swaps l bd cI cJ cZ e2) yy_X8_swaps tw_944 rfl rfl ⟨by decide, by decide⟩ hPm (hDm τ) hPx (ha2 σ' τ) hS (q0 := 0) (ci := 8) rfl rfl (mwa_0 ..) rfl hl.1 rfl (Nat.le_of_ble_eq_true rfl) ⟨by decide, by decide⟩ dL_law_725 (fun H locs hPm hPx hS => ?_)
  exact lv_icmp_eq (tgt := 832) hx hb dL_law_728 (by decide) (fun _ => kk σ' τ' _ _ hI' hPx hPm hS) (fun h => absurd rfl h)
set_option maxHeartbeats 4000000 in
set_option maxRecDepth 100000 in
theorem lc_21 (hC : LwC p s m meth c b L xs D cI cJ cZ) (hL : L ≤ 2560) (hDD : LwD s cI cJ cZ ad bd) (hi : i + 4 < L) (hl : lv_has ls 4 [(0, .ref b), (1, .ref (ad 0)), (2, .ref (bd 0)), (3, .int (nI i))]) (hI : Inv σ τ) (hPx : va_P D vwCl (xw ad cI cJ σ) H) (hPm : va_P D vwCl (mw bd cI cZ τ) H) (hS : va_S (nwA s) s.heap H locs) (kk : ∀ (σ' τ' : St) (H1 : Heap) (locs1 : List Loc), Inv σ' τ' → va_P D vwCl (xw ad cI cJ σ') H1 → va_P D vwCl (mw bd cI cZ τ') H1 → va_S (nwA s) s.heap H1 locs1 → W p l e room_1 s m #[Value.ref b] below meth c H1 locs1 49 60156 Q (F0 m 832 ls [])) : W p l e room_1 s m #[Value.ref b] below meth c H locs 49 60156 Q (F0 m 733 ls []) := by
  obtain ⟨hx, hb, -⟩ := id hC
  obtain ⟨hDx, hDm, ha1, ha2⟩ := id hDD
  obtain ⟨r, σ', τ', e1, e2, hI'⟩ := call_step hI (N := 20000) (by decide) (xs (i + 1)) (xs (i + 2)) (xs (i + 3))
  refine lv_aload_n hx hb dL_law_733 rfl (lv_at hl 1 rfl) ?_
  refine ldS hC hL hS (k := 1) (by omega) hl dL_law_734 dL_law_735 dL_law_736 rfl dL_law_737 dL_law_738 ?_
  refine ldS hC hL hS (k := 2) (by omega) hl dL_law_739 dL_law_740 dL_law_741 rfl dL_law_742 dL_law_743 ?_
  refine ldS hC hL hS (k := 3) (by omega) hl dL_law_744 dL_law_745 dL_law_746 rfl dL_law_747 dL_law_748 ?_
  refine cLaw (As := [.int (xs (i + 1)), .int (xs (i + 2)), .int (xs (i + 3))]) (rest := []) hC (k_LT_step l ad cI cJ cZ e1) yy_X7_step tw_679 rfl rfl ⟨by decide, by decide⟩ hPx (hDx σ) hPm (ha1 σ τ) hS (q0 := 0) (ci := 7) rfl rfl (xwa_0 ..) rfl hl.1 rfl (Nat.le_of_ble_eq_true rfl) ⟨by decide, by decide⟩ dL_law_749 (fun H locs hPx hPm hS => ?_)
  refine lv_aload_n hx hb dL_law_752 rfl (lv_at hl 2 rfl) ?_
  refine ldS hC hL hS (k := 1) (by omega) hl dL_law_753 dL_law_754 dL_law_755 rfl dL_law_756 dL_law_757 ?_
  refine ldS hC hL hS (k := 2) (by omega) hl dL_law_758 dL_law_759 dL_law_760 rfl dL_law_761 dL_law_762 ?_
  refine ldS hC hL hS (k := 3) (by omega) hl dL_law_763 dL_law_764 dL_law_765 rfl dL_law_766 dL_law_767 ?_
  refine cLaw (As := [.int (xs (i + 1)), .int (xs (i + 2)), .int (xs (i + 3))]) (rest := [.int r]) hC (k_M_step l bd cI cJ cZ e2) yy_X8_step tw_960 rfl rfl ⟨by decide, by decide⟩ hPm (hDm τ) hPx (ha2 σ' τ) hS (q0 := 0) (ci := 8) rfl rfl (mwa_0 ..) rfl hl.1 rfl (Nat.le_of_ble_eq_true rfl) ⟨by decide, by decide⟩ dL_law_768 (fun H locs hPm hPx hS => ?_)
  exact lv_icmp_eq (tgt := 832) hx hb dL_law_771 (by decide) (fun _ => kk σ' τ' _ _ hI' hPx hPm hS) (fun h => absurd rfl h)
set_option maxHeartbeats 4000000 in
set_option maxRecDepth 100000 in
theorem lc_22 (hC : LwC p s m meth c b L xs D cI cJ cZ) (hL : L ≤ 2560) (hDD : LwD s cI cJ cZ ad bd) (hi : i + 4 < L) (hl : lv_has ls 4 [(0, .ref b), (1, .ref (ad 0)), (2, .ref (bd 0)), (3, .int (nI i))]) (hI : Inv σ τ) (hPx : va_P D vwCl (xw ad cI cJ σ) H) (hPm : va_P D vwCl (mw bd cI cZ τ) H) (hS : va_S (nwA s) s.heap H locs) (kk : ∀ (σ' τ' : St) (H1 : Heap) (locs1 : List Loc), Inv σ' τ' → va_P D vwCl (xw ad cI cJ σ') H1 → va_P D vwCl (mw bd cI cZ τ') H1 → va_S (nwA s) s.heap H1 locs1 → W p l e room_1 s m #[Value.ref b] below meth c H1 locs1 49 60156 Q (F0 m 832 ls [])) : W p l e room_1 s m #[Value.ref b] below meth c H locs 49 60156 Q (F0 m 776 ls []) := by
  obtain ⟨hx, hb, -⟩ := id hC
  obtain ⟨hDx, hDm, ha1, ha2⟩ := id hDD
  obtain ⟨r, e1, e2⟩ := call_look hI (N := 20000) (xs (i + 1)) (xs (i + 2))
  obtain ⟨σ', hσ'⟩ : ∃ z, z = σ := ⟨_, rfl⟩
  obtain ⟨τ', hτ'⟩ : ∃ z, z = τ := ⟨_, rfl⟩
  have hI' : Inv σ' τ' := by rw [hσ', hτ']; exact hI
  refine lv_aload_n hx hb dL_law_776 rfl (lv_at hl 1 rfl) ?_
  refine ldS hC hL hS (k := 1) (by omega) hl dL_law_777 dL_law_778 dL_law_779 rfl dL_law_780 dL_law_781 ?_
  refine ldS hC hL hS (k := 2) (by omega) hl dL_law_782 dL_law_783 dL_law_784 rfl dL_law_785 dL_law_786 ?_
  refine cLaw (As := [.int (xs (i + 1)), .int (xs (i + 2))]) (rest := []) hC (k_LT_look l ad cI cJ cZ e1) yy_X7_look tw_693 rfl rfl ⟨by decide, by decide⟩ hPx (hDx σ) hPm (ha1 σ τ) hS (q0 := 0) (ci := 7) rfl rfl (xwa_0 ..) rfl hl.1 rfl (Nat.le_of_ble_eq_true rfl) ⟨by decide, by decide⟩ dL_law_787 (fun H locs hPx hPm hS => ?_)
  rw [← hσ'] at hPx
  refine lv_aload_n hx hb dL_law_790 rfl (lv_at hl 2 rfl) ?_
  refine ldS hC hL hS (k := 1) (by omega) hl dL_law_791 dL_law_792 dL_law_793 rfl dL_law_794 dL_law_795 ?_
  refine ldS hC hL hS (k := 2) (by omega) hl dL_law_796 dL_law_797 dL_law_798 rfl dL_law_799 dL_law_800 ?_
  refine cLaw (As := [.int (xs (i + 1)), .int (xs (i + 2))]) (rest := [.int r]) hC (k_M_look l bd cI cJ cZ e2) yy_X8_look tw_965 rfl rfl ⟨by decide, by decide⟩ hPm (hDm τ) hPx (ha2 σ' τ) hS (q0 := 0) (ci := 8) rfl rfl (mwa_0 ..) rfl hl.1 rfl (Nat.le_of_ble_eq_true rfl) ⟨by decide, by decide⟩ dL_law_801 (fun H locs hPm hPx hS => ?_)
  rw [← hτ'] at hPm
  exact lv_icmp_eq (tgt := 832) hx hb dL_law_804 (by decide) (fun _ => kk σ' τ' _ _ hI' hPx hPm hS) (fun h => absurd rfl h)
set_option maxHeartbeats 4000000 in
set_option maxRecDepth 100000 in
theorem lc_23 (hC : LwC p s m meth c b L xs D cI cJ cZ) (hL : L ≤ 2560) (hDD : LwD s cI cJ cZ ad bd) (hi : i + 4 < L) (hl : lv_has ls 4 [(0, .ref b), (1, .ref (ad 0)), (2, .ref (bd 0)), (3, .int (nI i))]) (hI : Inv σ τ) (hPx : va_P D vwCl (xw ad cI cJ σ) H) (hPm : va_P D vwCl (mw bd cI cZ τ) H) (hS : va_S (nwA s) s.heap H locs) (kk : ∀ (σ' τ' : St) (H1 : Heap) (locs1 : List Loc), Inv σ' τ' → va_P D vwCl (xw ad cI cJ σ') H1 → va_P D vwCl (mw bd cI cZ τ') H1 → va_S (nwA s) s.heap H1 locs1 → W p l e room_1 s m #[Value.ref b] below meth c H1 locs1 49 60156 Q (F0 m 832 ls [])) : W p l e room_1 s m #[Value.ref b] below meth c H locs 49 60156 Q (F0 m 809 ls []) := by
  obtain ⟨hx, hb, -⟩ := id hC
  obtain ⟨hDx, hDm, ha1, ha2⟩ := id hDD
  obtain ⟨r, σ', τ', e1, e2, hI'⟩ := call_count hI (N := 20000) (by decide) (xs (i + 1))
  refine lv_aload_n hx hb dL_law_809 rfl (lv_at hl 1 rfl) ?_
  refine ldS hC hL hS (k := 1) (by omega) hl dL_law_810 dL_law_811 dL_law_812 rfl dL_law_813 dL_law_814 ?_
  refine cLaw (As := [.int (xs (i + 1))]) (rest := []) hC (k_LT_count l ad cI cJ cZ e1) yy_X7_count tw_697 rfl rfl ⟨by decide, by decide⟩ hPx (hDx σ) hPm (ha1 σ τ) hS (q0 := 0) (ci := 7) rfl rfl (xwa_0 ..) rfl hl.1 rfl (Nat.le_of_ble_eq_true rfl) ⟨by decide, by decide⟩ dL_law_815 (fun H locs hPx hPm hS => ?_)
  refine lv_aload_n hx hb dL_law_818 rfl (lv_at hl 2 rfl) ?_
  refine ldS hC hL hS (k := 1) (by omega) hl dL_law_819 dL_law_820 dL_law_821 rfl dL_law_822 dL_law_823 ?_
  refine cLaw (As := [.int (xs (i + 1))]) (rest := [.int r]) hC (k_M_count l bd cI cJ cZ e2) yy_X8_count tw_969 rfl rfl ⟨by decide, by decide⟩ hPm (hDm τ) hPx (ha2 σ' τ) hS (q0 := 0) (ci := 8) rfl rfl (mwa_0 ..) rfl hl.1 rfl (Nat.le_of_ble_eq_true rfl) ⟨by decide, by decide⟩ dL_law_824 (fun H locs hPm hPx hS => ?_)
  exact lv_icmp_eq (tgt := 832) hx hb dL_law_827 (by decide) (fun _ => kk σ' τ' _ _ hI' hPx hPm hS) (fun h => absurd rfl h)
end LCS
