/-! the class finds its good trees -/
def reds (co : Nat → Nat) (m x : Nat) : Nat := fb_sm (fun e => if x.testBit e = true then co e else 0) m
def isT (fr to : Nat → Nat) (n m t : Nat) : Prop := t < 2 ^ m ∧ pck m t + 1 = n ∧ ac fr to m (fun v => v) t = true
def cmk (m : Nat) (cu : Nat → Nat) : Nat := mk m (fun e => decide (cu e = 1))
def ucb (m : Nat) (cu : Nat → Nat) (x : Nat) : Bool := decide (x &&& cmk m cu = 0)
def plT (T : List Nat) (uc : Nat → Bool) (bv : Nat → Nat) (j : Nat) : List Nat := (List.range j).filter (fun i => uc (T.getD i 0) && decide (bv (T.getD i 0) = 0))
def GTR (σ : St) (T : List Nat) (uc : Nat → Bool) (bv : Nat → Nat) (j : Nat) : Prop := σ.1 18 = nI (plT T uc bv j).length ∧ σ.1 19 = nI ((T.take j).filter uc).length ∧ σ.1 22 = nI (mk 32 (fun k => ((T.take j).filter uc).any (fun x => decide (bv x = k)))) ∧ ∀ i, i < (plT T uc bv j).length → σ.2.1 13 i = nI ((plT T uc bv j).getD i 0)
def FrG (σ σ' : St) : Prop := (∀ k, k ≠ 18 → k ≠ 19 → k ≠ 20 → k ≠ 21 → k ≠ 22 → σ'.1 k = σ.1 k) ∧ (∀ k, k ≠ 13 → σ'.2.1 k = σ.2.1 k) ∧ σ'.2.2 = σ.2.2
theorem FrG.rfl' (σ : St) : FrG σ σ := ⟨fun _ _ _ _ _ _ => rfl, fun _ _ => rfl, rfl⟩
theorem FrG.trans {a b c : St} (h : FrG a b) (g : FrG b c) : FrG a c := ⟨fun k h1 h2 h3 h4 h5 => (g.1 k h1 h2 h3 h4 h5).trans (h.1 k h1 h2 h3 h4 h5), fun k h1 => (g.2.1 k h1).trans (h.2.1 k h1), g.2.2.trans h.2.2⟩
theorem fmx_cap {g : Nat → Nat} {n b : Nat} (h : ∀ v, v < n → g v ≤ b) : fmx g n ≤ b := fmx_le h
theorem sum_le_ct (x : Nat) {pr : Nat → Nat} {c : Nat} : ∀ {m : Nat}, (∀ e, e < m → pr e ≤ c) → fb_sm (fun e => if x.testBit e = true then pr e else 0) m ≤ pck m x * c := by
  intro m
  induction m with
  | zero => intro _; exact Nat.zero_le _
  | succ m ih =>
    intro h
    have h1 := ih (fun e he => h e (by omega))
    rw [fb_sm_succ, pck_succ, Nat.add_mul]
    refine Nat.add_le_add h1 ?_
    by_cases z : x.testBit m = true
    · rw [if_pos z, if_pos z, Nat.one_mul]; exact h m (by omega)
    · rw [if_neg z]; exact Nat.zero_le _
section GTF
variable {n m root : Nat} {fr to pr dm co dg cu : Nat → Nat} {dep lod rf rt wy : Nat}
theorem meas_cap (hw : WN n m root fr to pr dm) {x : Nat} (ht : isT fr to n m x) : mP fr to pr m root x ≤ 6993 ∧ mD fr to pr m root x ≤ 7 ∧ mL fr to pr dm m root x ≤ 792 ∧ mW fr to pr m root x ≤ 7000 := by
  obtain ⟨h1, h2, h3⟩ := ht
  obtain ⟨f, pe, pa, sN, bN, tp, t1, t2⟩ := TP_tree hw h1 h2 h3
  obtain ⟨hn2, hn8, hm, hroot, hE, hdm⟩ := hw
  have hne : ∀ e, e < m → fr e ≠ to e := fun e he => (hE e he).2.2.1
  refine ⟨?_, ?_, ?_, ?_⟩
  · unfold mP
    rw [price_sum tp hne hn8]
    have := sum_le_ct x (pr := pr) (c := 999) (m := m) (fun e he => (hE e he).2.2.2)
    have : pck m x * 999 ≤ 7 * 999 := Nat.mul_le_mul_right _ (by omega)
    omega
  · unfold mD
    rw [depth_max tp hne hn8]
    exact fmx_le (fun v hv => by have := (tp.2.2.2.2.2.2 v hv).2; omega)
  · rw [(load_max tp hne hn8 dm).1]
    refine fmx_le (fun e _ => ?_)
    have : fb_sm (fun v => if v ≠ root ∧ bN v = e then dm v else 0) n ≤ n * 99 := fb_sm_cap (fun v hv => by
      split
      · exact hdm v (by omega)
      · exact Nat.zero_le _)
    omega
  · unfold mW
    rw [way_max tp hne hn8]
    exact fmx_le t1
def bvl (fr to pr dm co dg : Nat → Nat) (n m root dep lod rf rt wy x : Nat) : Nat := brk dg dep lod rf rt wy n (la fr to m x) (mD fr to pr m root x) (mL fr to pr dm m root x) (reds co m x) (mW fr to pr m root x)
theorem GT_brokenAt_ok {σ : St} (hw : WN n m root fr to pr dm) (hx : NX σ n m root fr to pr dm) (hl : LX σ m co dg dep lod rf rt wy) (hwl : WL dg dep lod rf rt wy) (hco : ∀ e, e < m → co e ≤ 1) {T : List Nat} (hT : TLR σ T) (hi : ∀ t, t ∈ T → isT fr to n m t) (hM : MSR σ fr to pr dm m root T T.length) {N : Nat} (hN : 20 ≤ N) {i : Nat} (hiT : i < T.length) : GT_brokenAt N (nI i) σ = some (nI (bvl fr to pr dm co dg n m root dep lod rf rt wy (T.getD i 0))) := by
  have hlen := hT.2.2.2.2.2.2
  have gi : inb (nI i) 1280 = true := inb_nI (by omega) (by decide)
  have hmem : T.getD i 0 ∈ T := by
    rw [List.getD_eq_getElem?_getD, List.getElem?_eq_getElem hiT]
    exact List.getElem_mem _
  have ht := hi _ hmem
  obtain ⟨c1, c2, c3, c4⟩ := meas_cap hw ht
  obtain ⟨m1, m2, m3, m4⟩ := hM i hiT
  unfold GT_brokenAt
  have hn8 := hw.2.1
  rw [grd_t gi, grd_t gi, grd_t gi, grd_t gi, nI_clamp (by omega), hT.2.1 i hiT, m2, m3, m4, bnd_t (Lim_broken hx hl hwl hw.2.2.1 hw.2.1 (fun e he => ⟨(hw.2.2.2.2.1 e he).1, (hw.2.2.2.2.1 e he).2.1⟩) hco hN (by have := ht.2.1; omega) (by omega) (by omega) (by omega))]
  rfl
theorem shl32 : ∀ e, e < 32 → (1 : Int32) <<< (nI e &&& 31) = nI (2 ^ e) := by decide +kernel
theorem and_nI_zero {x c : Nat} (hx : x < 2 ^ 31) (hc : c < 2 ^ 31) : (nI x &&& nI c = 0) ↔ x &&& c = 0 := by
  rw [fa_and]
  exact nI_z (Nat.lt_of_le_of_lt Nat.and_le_left hx)
theorem take_next {T : List Nat} {j : Nat} (hj : j < T.length) : T.take (j + 1) = T.take j ++ [T.getD j 0] := by
  rw [List.take_succ, List.getD_eq_getElem?_getD, List.getElem?_eq_getElem hj]
  rfl
theorem plT_next (T : List Nat) (uc : Nat → Bool) (bv : Nat → Nat) (j : Nat) : plT T uc bv (j + 1) = plT T uc bv j ++ (if uc (T.getD j 0) = true ∧ bv (T.getD j 0) = 0 then [j] else []) := by
  unfold plT
  rw [List.range_succ, List.filter_append]
  congr 1
  by_cases h : uc (T.getD j 0) = true ∧ bv (T.getD j 0) = 0
  · rw [if_pos h, List.filter_cons_of_pos (by rw [h.1, h.2]; rfl)]; rfl
  · rw [if_neg h, List.filter_cons_of_neg (by simpa using h)]; rfl
theorem plT_len (T : List Nat) (uc : Nat → Bool) (bv : Nat → Nat) (j : Nat) : (plT T uc bv j).length ≤ j := by
  have := List.length_filter_le (fun i => uc (T.getD i 0) && decide (bv (T.getD i 0) = 0)) (List.range j)
  rw [List.length_range] at this
  exact this
theorem GT_find_ok {σ : St} (hw : WN n m root fr to pr dm) (hx : NX σ n m root fr to pr dm) (hl : LX σ m co dg dep lod rf rt wy) (hwl : WL dg dep lod rf rt wy) (hco : ∀ e, e < m → co e ≤ 1) (hcut : σ.1 4 = nI (cmk m cu)) {T : List Nat} (hT : TLR σ T) (hi : ∀ t, t ∈ T → isT fr to n m t) (hM : MSR σ fr to pr dm m root T T.length) {N : Nat} (hN : 1300 ≤ N) : ∃ σ', GT_find N σ = some σ' ∧ GTR σ' T (ucb m cu) (bvl fr to pr dm co dg n m root dep lod rf rt wy) T.length ∧ FrG σ σ' ∧ σ'.1 20 = 1 ∧ σ'.1 21 = 0 := by
  obtain ⟨bv, hbv⟩ : ∃ bv, bv = bvl fr to pr dm co dg n m root dep lod rf rt wy := ⟨_, rfl⟩
  rw [← hbv]
  have hlen := hT.2.2.2.2.2.2
  have hm := hw.2.2.1
  have bvlt : ∀ x, bv x < 32 := fun x => by rw [hbv]; exact brk_lt _ _ _ _ _ _ _ _ _ _ _ _
  have fNX : ∀ ρ, FrG σ ρ → NX ρ n m root fr to pr dm := by
    intro ρ h
    obtain ⟨x0, x1, x2, xe, xv⟩ := hx
    refine ⟨by rw [h.1 0 (by decide) (by decide) (by decide) (by decide) (by decide)]; exact x0, by rw [h.1 1 (by decide) (by decide) (by decide) (by decide) (by decide)]; exact x1, by rw [h.1 2 (by decide) (by decide) (by decide) (by decide) (by decide)]; exact x2, ?_, ?_⟩
    · rw [h.2.1 2 (by decide), h.2.1 3 (by decide), h.2.1 4 (by decide)]; exact xe
    · rw [h.2.1 0 (by decide), h.2.1 1 (by decide)]; exact xv
  have fLX : ∀ ρ, FrG σ ρ → LX ρ m co dg dep lod rf rt wy := by
    intro ρ h
    obtain ⟨l1, l2, l3, l4, l5, l6, l7, l8⟩ := hl
    have g : ∀ k, k < 18 → ρ.1 k = σ.1 k := fun k hk => h.1 k (by omega) (by omega) (by omega) (by omega) (by omega)
    exact ⟨by rw [g 3 (by decide)]; exact l1, by rw [g 5 (by decide)]; exact l2, by rw [g 6 (by decide)]; exact l3, by rw [g 7 (by decide)]; exact l4, by rw [g 8 (by decide)]; exact l5, by rw [g 9 (by decide)]; exact l6, by rw [g 10 (by decide)]; exact l7, by rw [h.2.1 5 (by decide)]; exact l8⟩
  have fTL : ∀ ρ, FrG σ ρ → TLR ρ T := by
    intro ρ h
    obtain ⟨a1, a2, a3, a4, a5⟩ := hT
    exact ⟨by rw [h.1 15 (by decide) (by decide) (by decide) (by decide) (by decide)]; exact a1, by rw [h.2.1 6 (by decide)]; exact a2, fun w hw => by rw [h.2.2]; exact a3 w hw, by rw [h.2.1 11 (by decide)]; exact a4, a5⟩
  have fMS : ∀ ρ, FrG σ ρ → MSR ρ fr to pr dm m root T T.length := by
    intro ρ h
    intro i hi
    rw [h.2.1 7 (by decide), h.2.1 8 (by decide), h.2.1 9 (by decide), h.2.1 10 (by decide)]
    exact hM i hi
  have cb : cmk m cu < 2 ^ 14 := Nat.lt_of_lt_of_le (mk_lt _ m) (Nat.pow_le_pow_right (by decide) hm)
  have loop : ∀ (d j : Nat), j + d = T.length → ∀ fuel, d < fuel → ∀ ρ : St, FrG σ ρ → GTR ρ T (ucb m cu) bv j → ∃ σ', GT_find_17 N (GT_find_64 N) fuel (nI j) ρ = some σ' ∧ GTR σ' T (ucb m cu) bv T.length ∧ FrG σ σ' ∧ σ'.1 20 = 1 ∧ σ'.1 21 = 0 := by
    intro d
    induction d with
    | zero =>
      intro j hj fuel hf ρ hfr hg
      obtain ⟨fuel, rfl⟩ : ∃ z, fuel = z + 1 := ⟨fuel - 1, by omega⟩
      have e : j = T.length := by omega
      subst e
      rw [GT_find_17_s, (fTL ρ hfr).1, if_pos (nI_le (by omega) (by omega))]
      unfold GT_find_64 lt
      refine ⟨_, rfl, hg, ⟨fun k h1 h2 h3 h4 h5 => ?_, hfr.2.1, hfr.2.2⟩, si_same _ _ _, ?_⟩
      · rw [si_ne _ _ h3, si_ne _ _ h4]; exact hfr.1 k h1 h2 h3 h4 h5
      · rw [si_ne _ _ (by decide), si_same]
    | succ d ih =>
      intro j hj fuel hf ρ hfr hg
      obtain ⟨fuel, rfl⟩ : ∃ z, fuel = z + 1 := ⟨fuel - 1, by omega⟩
      have hjT : j < T.length := by omega
      have tl' := fTL ρ hfr
      have hmem : T.getD j 0 ∈ T := by
        rw [List.getD_eq_getElem?_getD, List.getElem?_eq_getElem hjT]
        exact List.getElem_mem _
      have ht := hi _ hmem
      have hx14 : T.getD j 0 < 2 ^ 14 := Nat.lt_of_lt_of_le ht.1 (Nat.pow_le_pow_right (by decide) hm)
      have c4 : ρ.1 4 = nI (cmk m cu) := by rw [hfr.1 4 (by decide) (by decide) (by decide) (by decide) (by decide)]; exact hcut
      have gj : inb (nI j) 1280 = true := inb_nI (by omega) (by decide)
      rw [GT_find_17_s, tl'.1, if_neg (nI_ge (by omega) (by omega)), grd_t gj, nI_clamp (by omega), tl'.2.1 j hjT, c4, nI_1]
      obtain ⟨g1, g2, g3, g4⟩ := hg
      have hpl := plT_len T (ucb m cu) bv j
      by_cases hc : T.getD j 0 &&& cmk m cu = 0
      · have huc : ucb m cu (T.getD j 0) = true := decide_eq_true hc
        have hbr := GT_brokenAt_ok hw (fNX ρ hfr) (fLX ρ hfr) hwl hco tl' hi (fMS ρ hfr) (show 20 ≤ N by omega) hjT
        rw [← hbv] at hbr
        rw [if_pos ((and_nI_zero (by omega) (by omega)).mpr hc), bnd_t hbr]
        have b32 := bvlt (T.getD j 0)
        have n19 : nI ((T.take j).filter (ucb m cu)).length + 1 = nI ((T.take (j + 1)).filter (ucb m cu)).length := by
          rw [nI_1, take_next hjT, List.filter_append, List.length_append, List.filter_cons_of_pos huc]; rfl
        have n22 : nI (mk 32 (fun k => ((T.take j).filter (ucb m cu)).any (fun x => decide (bv x = k)))) ||| (1 : Int32) <<< (nI (bv (T.getD j 0)) &&& 31) = nI (mk 32 (fun k => ((T.take (j + 1)).filter (ucb m cu)).any (fun x => decide (bv x = k)))) := by
          rw [shl32 _ b32, fa_or]
          congr 1
          apply Nat.eq_of_testBit_eq
          intro i
          rw [Nat.testBit_or, mk_bit, mk_bit, Nat.testBit_two_pow, take_next hjT, List.filter_append, List.any_append, List.filter_cons_of_pos huc]
          by_cases hi32 : i < 32
          · simp [hi32]
          · have : ¬ bv (T.getD j 0) = i := by omega
            simp only [hi32, this, decide_false, Bool.false_and, Bool.or_false]
        unfold GT_take lt
        dsimp only
        by_cases hz : bv (T.getD j 0) = 0
        · have epl : plT T (ucb m cu) bv (j + 1) = plT T (ucb m cu) bv j ++ [j] := by rw [plT_next, if_pos ⟨huc, hz⟩]
          have q18 : ∀ (v w : Int32), (si (si ρ 19 v) 22 w).1 18 = nI (plT T (ucb m cu) bv j).length := fun v w => by rw [si_ne _ _ (by decide), si_ne _ _ (by decide)]; exact g1
          rw [if_pos ((nI_z (by omega)).mpr hz), q18, grd_t (inb_nI (by omega) (by decide)), nI_clamp (by omega), bnd_t rfl]
          refine ih (j + 1) (by omega) fuel (by omega) _ (hfr.trans ⟨fun k h1 h2 h3 h4 h5 => ?_, fun k hk => ?_, rfl⟩) ⟨?_, ?_, ?_, fun i hi => ?_⟩
          · rw [si_ne _ _ h1]
            show (si (si ρ 19 _) 22 _).1 k = _
            rw [si_ne _ _ h5, si_ne _ _ h2]
          · show (sa (si (si ρ 19 _) 22 _) 13 _ _).2.1 k = _
            rw [sa_ne _ _ _ hk]; rfl
          · rw [si_same]
            show ρ.1 18 + 1 = _
            rw [g1, nI_1, epl, List.length_append]; rfl
          · show ρ.1 19 + 1 = _
            rw [g2, n19]
          · show ρ.1 22 ||| (1 : Int32) <<< (nI (bv (T.getD j 0)) &&& 31) = _
            rw [g3, n22]
          · show (sa (si (si ρ 19 _) 22 _) 13 _ _).2.1 13 i = _
            rw [sa_same]
            rw [epl, List.length_append, List.length_singleton] at hi
            rw [epl]
            by_cases e : i = (plT T (ucb m cu) bv j).length
            · rw [e, upd_s]; simp
            · rw [upd_n _ _ e]
              show ρ.2.1 13 i = _
              rw [g4 i (by omega)]
              congr 1
              rw [List.getD_eq_getElem?_getD, List.getD_eq_getElem?_getD, List.getElem?_append_left (by omega)]
        · have epl : plT T (ucb m cu) bv (j + 1) = plT T (ucb m cu) bv j := by rw [plT_next, if_neg (fun z => hz z.2), List.append_nil]
          rw [if_neg (fun z => hz ((nI_z (by omega)).mp z)), bnd_t rfl]
          refine ih (j + 1) (by omega) fuel (by omega) _ (hfr.trans ⟨fun k h1 h2 h3 h4 h5 => ?_, fun k hk => rfl, rfl⟩) ⟨?_, ?_, ?_, fun i hi => ?_⟩
          · rw [si_ne _ _ h5, si_ne _ _ h2]
          · rw [si_ne _ _ (by decide), si_ne _ _ (by decide), epl]; exact g1
          · rw [si_ne _ _ (by decide), si_same, g2, n19]
          · rw [si_same, si_ne _ _ (by decide), g3, n22]
          · rw [epl] at hi ⊢; exact g4 i hi
      · have huc : ¬ ucb m cu (T.getD j 0) = true := fun z => hc (of_decide_eq_true z)
        rw [if_neg (fun z => hc ((and_nI_zero (by omega) (by omega)).mp z))]
        have epl : plT T (ucb m cu) bv (j + 1) = plT T (ucb m cu) bv j := by rw [plT_next, if_neg (fun z => huc z.1), List.append_nil]
        have ef : (T.take (j + 1)).filter (ucb m cu) = (T.take j).filter (ucb m cu) := by rw [take_next hjT, List.filter_append, List.filter_cons_of_neg huc]; exact List.append_nil _
        exact ih (j + 1) (by omega) fuel (by omega) ρ hfr ⟨by rw [epl]; exact g1, by rw [ef]; exact g2, by rw [ef]; exact g3, by rw [epl]; exact g4⟩
  unfold GT_find lt
  refine loop T.length 0 (by omega) N (by omega) _ ⟨fun k h1 h2 h3 h4 h5 => ?_, fun _ _ => rfl, rfl⟩ ⟨?_, ?_, ?_, fun i hi => absurd hi (Nat.not_lt_zero i)⟩
  · rw [si_ne _ _ h5, si_ne _ _ h2, si_ne _ _ h1]
  · rfl
  · rfl
  · rfl
end GTF
