/-! the reference finds its good trees -/
def tb (fr to cu : Nat → Nat) (n m x : Nat) : Bool := decide (pck m x + 1 = n) && ucb m cu x && ac fr to m (fun v => v) x
def uT (t : Nat → Bool) (j : Nat) : List Nat := (List.range j).filter t
def gT (t : Nat → Bool) (bv : Nat → Nat) (j : Nat) : List Nat := (uT t j).filter (fun x => decide (bv x = 0))
theorem ucb_iff {m x : Nat} {cu : Nat → Nat} (hcu : ∀ e, e < m → cu e ≤ 1) : ucb m cu x = true ↔ ∀ e, e < m → x.testBit e = true → cu e = 0 := by
  unfold ucb cmk
  rw [decide_eq_true_eq]
  constructor
  · intro h e he hb
    have h1 : (x &&& mk m (fun e => decide (cu e = 1))).testBit e = false := by rw [h]; exact Nat.zero_testBit e
    rw [Nat.testBit_and, hb, mk_bit] at h1
    simp only [he, decide_true, Bool.true_and, decide_eq_false_iff_not] at h1
    have := hcu e he
    omega
  · intro h
    apply Nat.eq_of_testBit_eq
    intro e
    rw [Nat.testBit_and, mk_bit, Nat.zero_testBit]
    by_cases he : e < m
    · cases hb : x.testBit e with
      | false => rfl
      | true =>
        have := h e he hb
        simp [this]
    · simp [he]
theorem tb_iff {fr to cu : Nat → Nat} {n m x : Nat} (hcu : ∀ e, e < m → cu e ≤ 1) : tb fr to cu n m x = true ↔ isTr fr to cu n m x := by
  unfold tb isTr
  rw [Bool.and_eq_true, Bool.and_eq_true, decide_eq_true_eq, ucb_iff hcu, and_assoc]
theorem uT_next (t : Nat → Bool) (j : Nat) : uT t (j + 1) = uT t j ++ (if t j = true then [j] else []) := by
  unfold uT
  rw [List.range_succ, List.filter_append]
  congr 1
  by_cases h : t j = true
  · rw [if_pos h, List.filter_cons_of_pos h]; rfl
  · rw [if_neg h, List.filter_cons_of_neg h]; rfl
theorem gT_next (t : Nat → Bool) (bv : Nat → Nat) (j : Nat) : gT t bv (j + 1) = gT t bv j ++ (if t j = true ∧ bv j = 0 then [j] else []) := by
  unfold gT
  rw [uT_next, List.filter_append]
  congr 1
  by_cases h : t j = true
  · rw [if_pos h]
    by_cases z : bv j = 0
    · rw [if_pos ⟨h, z⟩, List.filter_cons_of_pos (by rw [z]; rfl)]; rfl
    · rw [if_neg (fun y => z y.2), List.filter_cons_of_neg (by simpa using z)]; rfl
  · rw [if_neg h, if_neg (fun y => h y.1)]; rfl
theorem uT_mono (t : Nat → Bool) {j : Nat} : ∀ {b : Nat}, j ≤ b → (uT t j).length ≤ (uT t b).length := by
  intro b
  induction b with
  | zero => intro h; rw [Nat.le_zero.mp h]; exact Nat.le_refl _
  | succ b ih =>
    intro h
    by_cases e : j = b + 1
    · rw [e]; exact Nat.le_refl _
    · rw [uT_next, List.length_append]
      exact Nat.le_trans (ih (by omega)) (Nat.le_add_right _ _)
theorem gT_len (t : Nat → Bool) (bv : Nat → Nat) (j : Nat) : (gT t bv j).length ≤ (uT t j).length := List.length_filter_le _ _
theorem gT_lt {t : Nat → Bool} {bv : Nat → Nat} {j x : Nat} (h : x ∈ gT t bv j) : x < j := List.mem_range.mp (List.mem_filter.mp (List.mem_filter.mp h).1).1
theorem uT_sorted (t : Nat → Bool) (j : Nat) : (uT t j).Pairwise (· < ·) := List.Pairwise.filter _ List.pairwise_lt_range
theorem gT_sorted (t : Nat → Bool) (bv : Nat → Nat) (j : Nat) : (gT t bv j).Pairwise (· < ·) := (uT_sorted t j).filter _
section MWK
variable {n m root : Nat} {fr to pr dm co dg cu : Nat → Nat} {dep lod rf rt wy : Nat}
/-- the uncut trees are those of the class's list -/
theorem uT_eq (hcu : ∀ e, e < m → cu e ≤ 1) : uT (tb fr to cu n m) (2 ^ m) = (tl fr to m (fun v => v) n 0).filter (ucb m cu) := by
  refine srt_one (R := (· < ·)) (fun a b h g => by omega) (uT_sorted _ _) ((tl_sorted m _ n 0).filter _) (fun x => ?_)
  rw [uT, List.mem_filter, List.mem_filter, List.mem_range, tl_mem]
  unfold tb
  rw [Bool.and_eq_true, Bool.and_eq_true, decide_eq_true_eq]
  constructor
  · rintro ⟨h1, ⟨h2, h3⟩, h4⟩
    exact ⟨⟨x, h1, by omega, h4, h2⟩, h3⟩
  · rintro ⟨⟨y, h1, h2, h3, h4⟩, h5⟩
    have e : x = y := by omega
    subst e
    exact ⟨h1, ⟨h4, h5⟩, h3⟩
theorem sa_i (ρ : St) (k i : Nat) (v : Int32) : (sa ρ k i v).1 = ρ.1 := rfl
theorem sq3_i (ρ : St) (F S B : Nat → Int32) : (sq3 ρ F S B).1 = ρ.1 := rfl
def MWR (τ : St) (t : Nat → Bool) (bv pz wz : Nat → Nat) (j : Nat) : Prop := τ.1 9 = nI (uT t j).length ∧ τ.1 10 = nI (gT t bv j).length ∧ (∀ i, i < (uT t j).length → τ.2.1 10 i = nI (bv ((uT t j).getD i 0))) ∧ (∀ i, i < (gT t bv j).length → τ.2.1 11 i = nI ((gT t bv j).getD i 0) ∧ τ.2.1 12 i = nI (pz ((gT t bv j).getD i 0)) ∧ τ.2.1 13 i = nI (wz ((gT t bv j).getD i 0))) ∧ (∀ x, x < j → τ.2.1 14 x = if x ∈ gT t bv j then nI ((gT t bv j).countP (fun y => decide (y < x))) else -1)
/-- what the work leaves as it is -/
def FrW (τ τ' : St) : Prop := (∀ k, k < 8 → τ'.1 k = τ.1 k) ∧ (∀ k, k < 7 → τ'.2.1 k = τ.2.1 k)
theorem FrW.trans {a b c : St} (h : FrW a b) (g : FrW b c) : FrW a c := ⟨fun k hk => (g.1 k hk).trans (h.1 k hk), fun k hk => (g.2 k hk).trans (h.2 k hk)⟩
theorem FrW.net {a b : St} (h : FrW a b) (hx : NM a n m root fr to pr co cu dm) : NM b n m root fr to pr co cu dm := by
  obtain ⟨x0, x1, x2, x3, x4, x5⟩ := hx
  refine ⟨by rw [h.1 0 (by decide)]; exact x0, by rw [h.1 1 (by decide)]; exact x1, by rw [h.1 2 (by decide)]; exact x2, ?_, by rw [h.2 4 (by decide)]; exact x4, by rw [h.2 6 (by decide)]; exact x5⟩
  rw [h.2 0 (by decide), h.2 1 (by decide), h.2 2 (by decide), h.2 3 (by decide)]; exact x3
theorem FrW.lim {a b : St} (h : FrW a b) (hl : LM a dg dep lod rf rt wy) : LM b dg dep lod rf rt wy := by
  obtain ⟨x0, x1, x2, x3, x4, x5⟩ := hl
  exact ⟨by rw [h.1 3 (by decide)]; exact x0, by rw [h.1 4 (by decide)]; exact x1, by rw [h.1 5 (by decide)]; exact x2, by rw [h.1 6 (by decide)]; exact x3, by rw [h.1 7 (by decide)]; exact x4, by rw [h.2 5 (by decide)]; exact x5⟩
theorem sq3_fr (τ : St) (F S B : Nat → Int32) : FrW τ (sq3 τ F S B) := ⟨fun _ _ => rfl, fun k hk => by unfold sq3; simp [show ¬ k = 7 by omega, show ¬ k = 8 by omega, show ¬ k = 9 by omega, show k ≠ 7 by omega, show k ≠ 8 by omega, show k ≠ 9 by omega]⟩
theorem sa_fr (τ : St) {k : Nat} (i : Nat) (v : Int32) (h : 6 < k) : FrW τ (sa τ k i v) := ⟨fun _ _ => rfl, fun j hj => sa_ne _ _ _ (by omega)⟩
theorem si_fr (τ : St) {k : Nat} (v : Int32) (h : 7 < k) : FrW τ (si τ k v) := ⟨fun j hj => si_ne _ _ (by omega), fun _ _ => rfl⟩
theorem MWR_sq3 {τ : St} {t : Nat → Bool} {bv pz wz : Nat → Nat} {j : Nat} (h : MWR τ t bv pz wz j) (F S B : Nat → Int32) : MWR (sq3 τ F S B) t bv pz wz j := h
theorem getD_app {G : List Nat} {x i : Nat} (hi : i < G.length) : (G ++ [x]).getD i 0 = G.getD i 0 := by
  rw [List.getD_eq_getElem?_getD, List.getD_eq_getElem?_getD, List.getElem?_append_left hi]
theorem getD_end (G : List Nat) (x : Nat) : (G ++ [x]).getD G.length 0 = x := by simp
theorem M_works_loop (hw : WN n m root fr to pr dm) (hcu : ∀ e, e < m → cu e ≤ 1) (hco : ∀ e, e < m → co e ≤ 1) (hwl : WL dg dep lod rf rt wy) {N : Nat} (hN : 20 ≤ N) (K : St → Option St) : ∀ (d j : Nat), j + d = 2 ^ m → ∀ fuel, d < fuel → ∀ τ : St, NM τ n m root fr to pr co cu dm → LM τ dg dep lod rf rt wy → MWR τ (tb fr to cu n m) (bvl fr to pr dm co dg n m root dep lod rf rt wy) (mP fr to pr m root) (mW fr to pr m root) j → ∃ τ', M_works_25 N K fuel (nI j) τ = K τ' ∧ MWR τ' (tb fr to cu n m) (bvl fr to pr dm co dg n m root dep lod rf rt wy) (mP fr to pr m root) (mW fr to pr m root) (2 ^ m) ∧ FrW τ τ' ∧ τ'.1 8 = τ.1 8 := by
  obtain ⟨bv, hbv⟩ : ∃ bv, bv = bvl fr to pr dm co dg n m root dep lod rf rt wy := ⟨_, rfl⟩
  obtain ⟨t, ht⟩ : ∃ t, t = tb fr to cu n m := ⟨_, rfl⟩
  obtain ⟨pz, hpz⟩ : ∃ pz, pz = mP fr to pr m root := ⟨_, rfl⟩
  obtain ⟨wz, hwz⟩ : ∃ wz, wz = mW fr to pr m root := ⟨_, rfl⟩
  rw [← hbv, ← ht, ← hpz, ← hwz]
  have hm := hw.2.2.1
  have h14 : 2 ^ m ≤ 2 ^ 14 := Nat.pow_le_pow_right (by decide) hm
  have hU : ∀ j, j ≤ 2 ^ m → (uT t j).length ≤ 1280 := fun j hj => by
    refine Nat.le_trans (uT_mono t hj) ?_
    rw [ht, uT_eq hcu]
    exact Nat.le_trans (List.length_filter_le _ _) (most hw.1 hw.2.1 hm (fun e he => ⟨(hw.2.2.2.2.1 e he).1, (hw.2.2.2.2.1 e he).2.1, (hw.2.2.2.2.1 e he).2.2.1⟩))
  intro d
  induction d with
  | zero =>
    intro j hj fuel hf τ hx hl hM
    obtain ⟨fuel, rfl⟩ : ∃ z, fuel = z + 1 := ⟨fuel - 1, by omega⟩
    have e : j = 2 ^ m := by omega
    subst e
    rw [M_works_25_s, hx.2.1, shl32 m (by omega), if_pos (nI_le (Nat.le_refl _) (by omega))]
    exact ⟨τ, rfl, hM, ⟨fun _ _ => rfl, fun _ _ => rfl⟩, rfl⟩
  | succ d ih =>
    intro j hj fuel hf τ hx hl hM
    obtain ⟨fuel, rfl⟩ : ∃ z, fuel = z + 1 := ⟨fuel - 1, by omega⟩
    have hjm : j < 2 ^ m := by omega
    have gj : inb (nI j) 16384 = true := inb_nI (by omega) (by decide)
    rw [M_works_25_s, hx.2.1, shl32 m (by omega), if_neg (nI_ge hjm (by omega)), grd_t gj, nI_clamp (by omega), nI_1]
    unfold lt
    dsimp only
    obtain ⟨w1, w2, w3, w4, w5⟩ := hM
    have f1 := sa_fr τ j (-1) (show 6 < 14 by decide)
    have hx1 := f1.net hx
    have hl1 := f1.lim hl
    rcases M_tree_all hw hx1 hcu hco hwl hN hjm with ⟨hT, F, S, B, e1, hall⟩ | ⟨hT, F, S, B, e1⟩
    · have tj : t j = true := by rw [ht]; exact (tb_iff hcu).mpr hT
      obtain ⟨hmz, hbr⟩ := hall (sa τ 14 j (-1)) hx1
      have hbr := hbr hl1
      rw [← hbv] at hbr
      have uE : uT t (j + 1) = uT t j ++ [j] := by rw [uT_next, if_pos tj]
      have lU := hU (j + 1) (by omega)
      rw [uE, List.length_append, List.length_singleton] at lU
      have lG := gT_len t bv j
      have b32 : bv j < 32 := by rw [hbv]; exact brk_lt _ _ _ _ _ _ _ _ _ _ _ _
      have i9 : ∀ ρ : St, (sq3 ρ F S B).1 = ρ.1 := fun _ => rfl
      unfold bnd2
      rw [e1]
      dsimp only
      rw [if_neg (by decide), bnd_t hbr, i9, show (sa τ 14 j (-1)).1 = τ.1 from rfl, w1, grd_t (inb_nI (by omega) (by decide)), nI_clamp (by omega), sq3_sa _ _ _ _ _ _ (by decide), i9, show (sa (sa τ 14 j (-1)) 10 (uT t j).length (nI (bv j))).1 = τ.1 from rfl, w1, grd_t (inb_nI (by omega) (by decide)), nI_clamp (by omega), sq3_arr _ _ _ _ (by decide), sa_same, upd_s]
      have t10 : ∀ (a1 : Nat → Int32) i, i < (uT t (j + 1)).length → a1 = upd (τ.2.1 10) (uT t j).length (nI (bv j)) → a1 i = nI (bv ((uT t (j + 1)).getD i 0)) := by
        intro a1 i hi ha
        rw [ha, uE]
        rw [uE, List.length_append, List.length_singleton] at hi
        by_cases e : i = (uT t j).length
        · rw [e, upd_s, getD_end]
        · rw [upd_n _ _ e, getD_app (by omega)]
          exact w3 i (by omega)
      by_cases hz : bv j = 0
      · have gE : gT t bv (j + 1) = gT t bv j ++ [j] := by rw [gT_next, if_pos ⟨tj, hz⟩]
        obtain ⟨many, hmany⟩ : ∃ a, a = (gT t bv j).length := ⟨_, rfl⟩
        rw [← hmany] at lG w2
        have gm : inb (nI many) 3432 = true := inb_nI (by omega) (by decide)
        have k0 : ∀ ρ : St, FrW τ ρ → M_measured N (nI j) 0 (sq3 ρ F S B) = some (nI (pz j)) := fun ρ h => by rw [hpz]; exact (hall ρ (h.net hx)).1 0 (by decide)
        have k5 : ∀ ρ : St, FrW τ ρ → M_measured N (nI j) 5 (sq3 ρ F S B) = some (nI (wz j)) := fun ρ h => by rw [hwz]; exact (hall ρ (h.net hx)).1 5 (by decide)
        have fr10 := f1.trans (sa_fr (sa τ 14 j (-1)) (uT t j).length (nI (bv j)) (show 6 < 10 by decide))
        have fr11 := fr10.trans (sa_fr _ many (nI j) (show 6 < 11 by decide))
        have fr12 := fr11.trans (sa_fr _ many (nI (pz j)) (show 6 < 12 by decide))
        have fr13 := fr12.trans (sa_fr _ many (nI (wz j)) (show 6 < 13 by decide))
        have fr14 := fr13.trans (sa_fr _ j (nI many) (show 6 < 14 by decide))
        have i10 : ∀ ρ : St, ρ.1 = τ.1 → (sq3 ρ F S B).1 10 = nI many := fun ρ h => by rw [i9, h]; exact w2
        rw [if_pos ((nI_z (by omega)).mpr hz)]
        simp only [sq3_i, sa_i, w2]
        rw [grd_t gm, nI_clamp (by omega), sq3_sa _ _ _ _ _ _ (by decide), bnd_t (k0 _ fr11), grd_t gm, sq3_sa _ _ _ _ _ _ (by decide), bnd_t (k5 _ fr12), grd_t gm, sq3_sa _ _ _ _ _ _ (by decide), grd_t gj, sq3_sa _ _ _ _ _ _ (by decide), sq3_si]
        have fr9 := (fr14.trans (si_fr _ (nI many + 1) (show 7 < 10 by decide))).trans (si_fr _ (τ.1 9 + 1) (show 7 < 9 by decide))
        have hM' : MWR (si (si (sa (sa (sa (sa (sa (sa τ 14 j (-1)) 10 (uT t j).length (nI (bv j))) 11 many (nI j)) 12 many (nI (pz j))) 13 many (nI (wz j))) 14 j (nI many)) 10 (nI many + 1)) 9 (τ.1 9 + 1)) t bv pz wz (j + 1) := by
          refine ⟨?_, ?_, fun i hi => ?_, fun i hi => ?_, fun x hx => ?_⟩
          · rw [si_same, w1, uE, nI_1, List.length_append]; rfl
          · rw [si_ne _ _ (by decide), si_same, gE, nI_1, List.length_append, ← hmany]; rfl
          · exact t10 _ i hi rfl
          · rw [gE, List.length_append, List.length_singleton, ← hmany] at hi
            rw [gE]
            show upd (τ.2.1 11) many (nI j) i = _ ∧ upd (τ.2.1 12) many (nI (pz j)) i = _ ∧ upd (τ.2.1 13) many (nI (wz j)) i = _
            by_cases e : i = many
            · rw [e, upd_s, upd_s, upd_s, hmany, getD_end]; exact ⟨rfl, rfl, rfl⟩
            · rw [upd_n _ _ e, upd_n _ _ e, upd_n _ _ e, getD_app (by omega)]
              exact w4 i (by omega)
          · rw [gE]
            show upd (upd (τ.2.1 14) j (-1)) j (nI many) x = _
            have hcp : (gT t bv j ++ [j]).countP (fun y => decide (y < x)) = (gT t bv j).countP (fun y => decide (y < x)) := by
              rw [List.countP_append, List.countP_cons_of_neg (by simp; omega)]; rfl
            rw [hcp]
            by_cases e : x = j
            · rw [e, upd_s, if_pos (List.mem_append_right _ List.mem_cons_self), hmany]
              congr 1
              exact (List.countP_eq_length.mpr (fun y hy => decide_eq_true (gT_lt hy))).symm
            · have hmem : (x ∈ gT t bv j ++ [j]) ↔ x ∈ gT t bv j := by simp [e]
              rw [upd_n _ _ e, upd_n _ _ e, w5 x (by omega)]
              simp only [hmem]
        obtain ⟨τ', a1, a2, a3, a4⟩ := ih (j + 1) (by omega) fuel (by omega) _ ((fr9.trans (sq3_fr _ F S B)).net hx) ((fr9.trans (sq3_fr _ F S B)).lim hl) (MWR_sq3 hM' F S B)
        exact ⟨τ', a1, a2, (fr9.trans (sq3_fr _ F S B)).trans a3, a4⟩
      · have gE : gT t bv (j + 1) = gT t bv j := by rw [gT_next, if_neg (fun z => hz z.2), List.append_nil]
        rw [if_neg (fun z => hz ((nI_z (by omega)).mp z))]
        have fr9 := (f1.trans (sa_fr (sa τ 14 j (-1)) (uT t j).length (nI (bv j)) (show 6 < 10 by decide))).trans (si_fr _ (τ.1 9 + 1) (show 7 < 9 by decide))
        have hM' : MWR (si (sa (sa τ 14 j (-1)) 10 (uT t j).length (nI (bv j))) 9 (τ.1 9 + 1)) t bv pz wz (j + 1) := by
          refine ⟨?_, ?_, fun i hi => ?_, fun i hi => ?_, fun x hx => ?_⟩
          · rw [si_same, w1, uE, nI_1, List.length_append]; rfl
          · rw [si_ne _ _ (by decide), gE]; exact w2
          · exact t10 _ i hi rfl
          · rw [gE] at hi ⊢; exact w4 i hi
          · rw [gE]
            show upd (τ.2.1 14) j (-1) x = _
            by_cases e : x = j
            · rw [e, upd_s, if_neg (fun z => Nat.lt_irrefl _ (gT_lt z))]
            · rw [upd_n _ _ e]; exact w5 x (by omega)
        obtain ⟨τ', a1, a2, a3, a4⟩ := ih (j + 1) (by omega) fuel (by omega) _ ((fr9.trans (sq3_fr _ F S B)).net hx) ((fr9.trans (sq3_fr _ F S B)).lim hl) (MWR_sq3 hM' F S B)
        exact ⟨τ', by rw [w1] at a1; exact a1, a2, (fr9.trans (sq3_fr _ F S B)).trans a3, a4⟩
    · have tj : ¬ t j = true := by rw [ht]; exact fun z => hT ((tb_iff hcu).mp z)
      have uE : uT t (j + 1) = uT t j := by rw [uT_next, if_neg tj, List.append_nil]
      have gE : gT t bv (j + 1) = gT t bv j := by rw [gT_next, if_neg (fun z => tj z.1), List.append_nil]
      have hM' : MWR (sa τ 14 j (-1)) t bv pz wz (j + 1) := by
        refine ⟨by rw [uE]; exact w1, by rw [gE]; exact w2, by rw [uE]; exact w3, by rw [gE]; exact w4, fun x hx => ?_⟩
        rw [gE]
        show upd (τ.2.1 14) j (-1) x = _
        by_cases e : x = j
        · rw [e, upd_s, if_neg (fun z => Nat.lt_irrefl _ (gT_lt z))]
        · rw [upd_n _ _ e]; exact w5 x (by omega)
      unfold bnd2
      rw [e1]
      dsimp only
      rw [if_pos rfl]
      obtain ⟨τ', a1, a2, a3, a4⟩ := ih (j + 1) (by omega) fuel (by omega) _ ((f1.trans (sq3_fr _ F S B)).net hx) ((f1.trans (sq3_fr _ F S B)).lim hl) (MWR_sq3 hM' F S B)
      exact ⟨τ', a1, a2, (f1.trans (sq3_fr _ F S B)).trans a3, a4⟩
end MWK
