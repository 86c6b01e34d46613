/-! the reference: whether a set is a tree -/
def NM (τ : St) (n m root : Nat) (fr to pr co cu dm : Nat → Nat) : Prop := τ.1 0 = nI n ∧ τ.1 1 = nI m ∧ τ.1 2 = nI root ∧ (∀ e, e < m → τ.2.1 0 e = nI (fr e) ∧ τ.2.1 1 e = nI (to e) ∧ τ.2.1 2 e = nI (pr e) ∧ τ.2.1 3 e = nI (co e)) ∧ (∀ e, e < 14 → τ.2.1 4 e = nI (cu e)) ∧ (∀ v, v < 8 → τ.2.1 6 v = nI (dm v))
def sq3 (τ : St) (F S B : Nat → Int32) : St := (τ.1, fun k => if k = 7 then F else if k = 8 then S else if k = 9 then B else τ.2.1 k, τ.2.2)
theorem sq3_self (τ : St) : sq3 τ (τ.2.1 7) (τ.2.1 8) (τ.2.1 9) = τ := by
  unfold sq3
  refine Prod.ext rfl (Prod.ext (funext fun k => ?_) rfl)
  dsimp only
  by_cases h : k = 7
  · subst h; rfl
  · by_cases h2 : k = 8
    · subst h2; rfl
    · by_cases h3 : k = 9
      · subst h3; rfl
      · simp [h, h2, h3]
theorem sq3_7 (τ : St) (F S B : Nat → Int32) (i : Nat) (v : Int32) : sa (sq3 τ F S B) 7 i v = sq3 τ (upd F i v) S B := by
  unfold sa sA sq3 va_up
  refine Prod.ext rfl (Prod.ext (funext fun k => ?_) rfl)
  dsimp only
  by_cases h : k = 7
  · subst h; rfl
  · simp [h]
theorem sq3_8 (τ : St) (F S B : Nat → Int32) (i : Nat) (v : Int32) : sa (sq3 τ F S B) 8 i v = sq3 τ F (upd S i v) B := by
  unfold sa sA sq3 va_up
  refine Prod.ext rfl (Prod.ext (funext fun k => ?_) rfl)
  dsimp only
  by_cases h : k = 8
  · subst h; rfl
  · simp [h]
theorem sq3_9 (τ : St) (F S B : Nat → Int32) (i : Nat) (v : Int32) : sa (sq3 τ F S B) 9 i v = sq3 τ F S (upd B i v) := by
  unfold sa sA sq3 va_up
  refine Prod.ext rfl (Prod.ext (funext fun k => ?_) rfl)
  dsimp only
  by_cases h : k = 9
  · subst h; rfl
  · simp [h]
def iF (f : Nat → Nat) : Nat → Int32 := fun v => nI (f v) - 1
theorem iF_upd (f : Nat → Nat) (c r : Nat) : upd (iF f) c (nI r) = iF (va_up f c (r + 1)) := by
  funext v
  unfold upd iF va_up
  by_cases h : v = c
  · rw [if_pos h, if_pos h, nI_pred]
  · rw [if_neg h, if_neg h]
theorem nI_sub1 {a b : Nat} (ha : a < 2 ^ 31) (hb : b < 2 ^ 31) : nI a - 1 = nI b - 1 ↔ a = b := by
  constructor
  · intro h
    have : nI a - 1 + 1 = nI b - 1 + 1 := by rw [h]
    rw [Int32.sub_add_cancel, Int32.sub_add_cancel] at this
    exact (nI_eq ha hb).mp this
  · intro h; rw [h]
theorem nI_subm {a : Nat} (ha : a < 2 ^ 31) : nI a - 1 = -1 ↔ a = 0 := by
  rw [show (-1 : Int32) = nI 0 - 1 from rfl]
  exact nI_sub1 ha (by decide)
def stq (τ : St) (q : BQ) : St := sq3 τ (iF q.1) q.2.1 q.2.2.1
theorem M_goes_ok {τ : St} {n m root : Nat} {fr to pr co cu dm : Nat → Nat} (hx : NM τ n m root fr to pr co cu dm) (hn : n ≤ 8) (hm : m ≤ 14) (hroot : root < n) {N e a c r : Nat} (he : e < m) (ha : a < n) (hc : c < n) (hr : r < 100) {q : BQ} (hq : ∀ v, v < n → q.1 v < 100) : ∃ k, M_goes N (nI e) (nI a) (nI c) (nI r) (stq τ q) = some (nI k, stq τ (goN pr root e a c r q)) ∧ (goN pr root e a c r q).2.2.2 = q.2.2.2 + k := by
  obtain ⟨x0, x1, x2, xe, xc, xv⟩ := hx
  have ga : inb (nI a) 8 = true := inb_nI (by omega) (by decide)
  have gc : inb (nI c) 8 = true := inb_nI (by omega) (by decide)
  have ge : inb (nI e) 14 = true := inb_nI (by omega) (by decide)
  have ca : (nI a).toNatClampNeg = a := nI_clamp (by omega)
  have cc : (nI c).toNatClampNeg = c := nI_clamp (by omega)
  have ce : (nI e).toNatClampNeg = e := nI_clamp (by omega)
  have qa := hq a ha
  have qc := hq c hc
  unfold M_goes
  rw [grd_t ga, ca, cc, ce]
  have fa : (stq τ q).2.1 7 a = nI (q.1 a) - 1 := rfl
  have fc : (stq τ q).2.1 7 c = nI (q.1 c) - 1 := rfl
  rw [fa]
  unfold goN
  by_cases h1 : q.1 a = r
  · rw [if_pos ((nI_sub1 (by omega) (by omega)).mpr h1), grd_t gc, fc]
    by_cases h2 : q.1 c = 0
    · rw [if_pos ((nI_subm (by omega)).mpr h2), grd_t gc, if_pos ⟨h1, h2⟩]
      refine ⟨1, ?_, rfl⟩
      unfold lt stq
      dsimp only
      rw [sq3_7, grd_t ga, grd_t ge, grd_t gc, iF_upd]
      have g8 : (sq3 τ (iF (va_up q.1 c (r + 1))) q.2.1 q.2.2.1).2.1 8 a = q.2.1 a := rfl
      have g2 : (sq3 τ (iF (va_up q.1 c (r + 1))) q.2.1 q.2.2.1).2.1 2 e = nI (pr e) := (xe e he).2.2.1
      rw [g8, g2, sq3_8]
      have gr : (sq3 τ (iF (va_up q.1 c (r + 1))) (upd q.2.1 c (q.2.1 a + nI (pr e))) q.2.2.1).1 2 = nI root := x2
      rw [gr]
      by_cases h3 : a = root
      · rw [if_pos ((nI_eq (by omega) (by omega)).mpr h3), grd_t gc, sq3_9, if_pos h3]; rfl
      · rw [if_neg (fun z => h3 ((nI_eq (by omega) (by omega)).mp z)), grd_t ga, grd_t gc, sq3_9, if_neg h3]; rfl
    · rw [if_neg (fun z => h2 ((nI_subm (by omega)).mp z)), if_neg (fun z => h2 z.2)]
      exact ⟨0, rfl, rfl⟩
  · rw [if_neg (fun z => h1 ((nI_sub1 (by omega) (by omega)).mp z)), if_neg (fun z => h1 z.1)]
    exact ⟨0, rfl, rfl⟩
theorem M_round {τ : St} {n m root : Nat} {fr to pr co cu dm : Nat → Nat} (hx : NM τ n m root fr to pr co cu dm) (hn : n ≤ 8) (hm : m ≤ 14) (hroot : root < n) (hE : ends fr to n m) {N x r : Nat} (hxm : x < 2 ^ m) (hr : 0 < r) (hr2 : r < 20) {q : BQ} (hq : BJ fr to pr n m root x r 0 q) (k : Int32 → Int32 → Int32 → St → Option (Int32 × St)) : ∀ (d e : Nat), e + d = m → ∀ fuel, d < fuel → M_isTree_118 N k fuel (nI x) (nI (rdN fr to pr root x r e q).2.2.2) (nI r) (nI e) (stq τ (rdN fr to pr root x r e q)) = k (nI x) (nI (rdN fr to pr root x r m q).2.2.2) (nI (r + 1)) (stq τ (rdN fr to pr root x r m q)) := by
  have hx14 := lt14 hxm hm
  intro d
  induction d with
  | zero =>
    intro e he fuel hf
    obtain ⟨fuel, rfl⟩ : ∃ z, fuel = z + 1 := ⟨fuel - 1, by omega⟩
    have : e = m := by omega
    subst this
    rw [M_isTree_118_s]
    have g1 : (stq τ (rdN fr to pr root x r e q)).1 1 = nI e := hx.2.1
    rw [g1, if_pos (nI_le (Nat.le_refl _) (by omega)), nI_1]
  | succ d ih =>
    intro e he fuel hf
    obtain ⟨fuel, rfl⟩ : ∃ z, fuel = z + 1 := ⟨fuel - 1, by omega⟩
    rw [M_isTree_118_s]
    have g1 : (stq τ (rdN fr to pr root x r e q)).1 1 = nI m := hx.2.1
    rw [g1, if_neg (nI_ge (by omega) (by omega)), M_has_nI (by omega) (by omega), nI_1]
    have hj := BJ_rd hE hr e q (by omega) hq
    have hnext := ih (e + 1) (by omega) fuel (by omega)
    by_cases hb : x.testBit e = true
    · rw [if_pos hb, if_neg (by decide)]
      have ge : inb (nI e) 14 = true := inb_nI (by omega) (by decide)
      have ce : (nI e).toNatClampNeg = e := nI_clamp (by omega)
      have hE1 := hE e (by omega)
      have hxe := hx.2.2.2.1 e (by omega)
      rw [grd_t ge, grd_t ge, ce]
      have g2 : (stq τ (rdN fr to pr root x r e q)).2.1 0 e = nI (fr e) := hxe.1
      have g3 : (stq τ (rdN fr to pr root x r e q)).2.1 1 e = nI (to e) := hxe.2.1
      rw [g2, g3]
      obtain ⟨k1, h1, h1c⟩ := M_goes_ok (N := N) (a := fr e) (c := to e) (r := r) hx hn hm hroot (show e < m by omega) hE1.1 hE1.2 (by omega) (q := rdN fr to pr root x r e q) (fun v hv => by have := hj.2.1 v hv; omega)
      rw [bnd2_t h1, grd_t ge, grd_t ge]
      have g4 : (stq τ (goN pr root e (fr e) (to e) r (rdN fr to pr root x r e q))).2.1 0 e = nI (fr e) := hxe.1
      have g5 : (stq τ (goN pr root e (fr e) (to e) r (rdN fr to pr root x r e q))).2.1 1 e = nI (to e) := hxe.2.1
      rw [g4, g5]
      have hj1 := (BJ_go hj (show e < m by omega) hb (Or.inl ⟨rfl, rfl⟩) hE1.1 hE1.2 hr).1
      obtain ⟨k2, h2, h2c⟩ := M_goes_ok (N := N) (a := to e) (c := fr e) (r := r) hx hn hm hroot (show e < m by omega) hE1.2 hE1.1 (by omega) (q := goN pr root e (fr e) (to e) r (rdN fr to pr root x r e q)) (fun v hv => by have := hj1.2.1 v hv; omega)
      rw [bnd2_t h2]
      have he1 : rdN fr to pr root x r (e + 1) q = goN pr root e (to e) (fr e) r (goN pr root e (fr e) (to e) r (rdN fr to pr root x r e q)) := by
        show edN fr to pr root x e r (rdN fr to pr root x r e q) = _
        unfold edN; rw [if_pos hb]
      rw [← hnext, he1, h2c, h1c, nI_add, nI_add, Nat.add_assoc]
    · rw [if_neg hb, if_pos rfl]
      have he1 : rdN fr to pr root x r (e + 1) q = rdN fr to pr root x r e q := by
        show edN fr to pr root x e r (rdN fr to pr root x r e q) = _
        unfold edN; rw [if_neg hb]
      rw [← hnext, he1]
theorem M_rounds {τ : St} {n m root : Nat} {fr to pr co cu dm : Nat → Nat} (hx : NM τ n m root fr to pr co cu dm) (hn : n ≤ 8) (hm : m ≤ 14) (hroot : root < n) (hE : ends fr to n m) {N x : Nat} (hN : 20 ≤ N) (hxm : x < 2 ^ m) {q : BQ} (hq : BJ fr to pr n m root x 1 0 q) (k : Int32 → St → Option (Int32 × St)) : ∀ (d r : Nat), r + 1 + d = n → ∀ fuel, d < fuel → M_isTree_107 N k fuel (nI x) (nI (bfN fr to pr root x m r q).2.2.2) (nI (r + 1)) (stq τ (bfN fr to pr root x m r q)) = k (nI (bfN fr to pr root x m (n - 1) q).2.2.2) (stq τ (bfN fr to pr root x m (n - 1) q)) := by
  intro d
  induction d with
  | zero =>
    intro r hr fuel hf
    obtain ⟨fuel, rfl⟩ : ∃ z, fuel = z + 1 := ⟨fuel - 1, by omega⟩
    rw [M_isTree_107_s]
    have g1 : (stq τ (bfN fr to pr root x m r q)).1 0 = nI n := hx.1
    have e1 : r = n - 1 := by omega
    rw [g1, if_pos (nI_le (by omega) (by omega)), e1]
  | succ d ih =>
    intro r hr fuel hf
    obtain ⟨fuel, rfl⟩ : ∃ z, fuel = z + 1 := ⟨fuel - 1, by omega⟩
    rw [M_isTree_107_s]
    have g1 : (stq τ (bfN fr to pr root x m r q)).1 0 = nI n := hx.1
    rw [g1, if_neg (nI_ge (by omega) (by omega))]
    have hj := BJ_bf hE r q hq
    have h1 := M_round (N := N) hx hn hm hroot hE hxm (Nat.succ_pos r) (by omega) hj (M_isTree_107 N k fuel) m 0 (by omega) N (by omega)
    rw [show (0 : Int32) = nI 0 from rfl]
    exact h1.trans (ih (r + 1) (by omega) fuel (by omega))
theorem M_size {N x : Nat} (hN : 20 ≤ N) (hx : x < 2 ^ 14) : M_sizeOf N (nI x) = some (nI (bl x).length) := by
  have loop : ∀ (k a : Nat), (bl a).length ≤ k → a < 2 ^ 14 → ∀ (fuel acc : Nat), k < fuel → M_sizeOf_4 N fuel (nI acc) (nI a) = some (nI (acc + (bl a).length)) := by
    intro k
    induction k with
    | zero =>
      intro a hl ha fuel acc hf
      obtain ⟨fuel, rfl⟩ : ∃ z, fuel = z + 1 := ⟨fuel - 1, by omega⟩
      have hb0 : bl a = [] := List.length_eq_zero_iff.mp (Nat.le_zero.mp hl)
      have ha0 : a = 0 := by
        rcases Nat.eq_zero_or_pos a with z | z
        · exact z
        · obtain ⟨l, -, -, -, hbl, -⟩ := bl_step z ha
          rw [hb0] at hbl; cases hbl
      rw [M_sizeOf_4_s, if_pos ((nI_z (by omega)).mpr ha0), hb0]
      rfl
    | succ k ih =>
      intro a hl ha fuel acc hf
      obtain ⟨fuel, rfl⟩ : ∃ z, fuel = z + 1 := ⟨fuel - 1, by omega⟩
      rw [M_sizeOf_4_s]
      rcases Nat.eq_zero_or_pos a with z | z
      · rw [if_pos ((nI_z (by omega)).mpr z), z, bl_zero]; rfl
      · obtain ⟨l, -, -, hclr, hbl, hlt, -⟩ := bl_step z ha
        rw [if_neg (fun y => by have := (nI_z (by omega)).mp y; omega), hclr, nI_1]
        rw [hbl] at hl ⊢
        rw [ih (a - 2 ^ l) (by simpa using hl) hlt fuel (acc + 1) (by omega), List.length_cons]
        congr 2; omega
  unfold M_sizeOf
  rw [show (0 : Int32) = nI 0 from rfl, loop 14 x (bl_len x) hx N 0 (by omega), Nat.zero_add]
theorem filter_len (p : Nat → Bool) : ∀ n, ((List.range n).filter p).length = fb_ct p n := by
  intro n
  induction n with
  | zero => rfl
  | succ n ih =>
    rw [List.range_succ, List.filter_append, List.length_append, ih, fb_ct_succ]
    congr 1
    by_cases h : p n = true
    · simp [h]
    · simp [h]
theorem bl_pck {x m : Nat} (hx : x < 2 ^ m) (hm : m ≤ 14) : (bl x).length = pck m x := by
  unfold bl pck
  rw [filter_len, show (14 : Nat) = m + (14 - m) by omega, fb_ct_split]
  have : fb_ct (fun k => x.testBit (m + k)) (14 - m) = 0 := fb_ct_zero.mpr (fun k _ => Nat.testBit_lt_two_pow (Nat.lt_of_lt_of_le hx (Nat.pow_le_pow_right (by decide) (by omega))))
  omega
/-- a tree of whole lines -/
def isTr (fr to cu : Nat → Nat) (n m x : Nat) : Prop := pck m x + 1 = n ∧ (∀ e, e < m → x.testBit e = true → cu e = 0) ∧ ac fr to m (fun v => v) x = true
theorem M_isTree_ok {τ : St} {n m root : Nat} {fr to pr co cu dm : Nat → Nat} (hx : NM τ n m root fr to pr co cu dm) (hn : n ≤ 8) (hn1 : 1 ≤ n) (hm : m ≤ 14) (hroot : root < n) (hE : ends fr to n m) (hcu : ∀ e, e < m → cu e ≤ 1) {N x : Nat} (hN : 20 ≤ N) (hxm : x < 2 ^ m) :
    (isTr fr to cu n m x ∧ ∃ q : BQ, M_isTree N (nI x) τ = some (1, stq τ q) ∧ BJ fr to pr n m root x n 0 q ∧ (∀ v, v < n → q.1 v ≠ 0 ∧ q.1 v ≤ n)) ∨ (¬ isTr fr to cu n m x ∧ ∃ F S B, M_isTree N (nI x) τ = some (0, sq3 τ F S B)) := by
  have hx14 := lt14 hxm hm
  unfold M_isTree
  rw [bnd_t (M_size hN hx14), bl_pck hxm hm, hx.1, show (1 : Int32) = nI 1 from rfl, pk_sub hn1]
  by_cases hs : pck m x + 1 = n
  · rw [if_pos (by congr 1; omega)]
    have hpk : pck m x ≤ m := fb_ct_le _ m
    -- no line of it is cut?
    have cuts : ∀ (d e : Nat), e + d = m → (∀ e', e' < e → x.testBit e' = true → cu e' = 0) → ∀ fuel, d < fuel → ∀ k : Int32 → Int32 → St → Option (Int32 × St), ((∀ e', e' < m → x.testBit e' = true → cu e' = 0) ∧ M_isTree_17 N k fuel (nI x) (nI e) τ = k (nI x) 0 τ) ∨ ((¬ ∀ e', e' < m → x.testBit e' = true → cu e' = 0) ∧ M_isTree_17 N k fuel (nI x) (nI e) τ = some (0, τ)) := by
      intro d
      induction d with
      | zero =>
        intro e he hc fuel hf k
        obtain ⟨fuel, rfl⟩ : ∃ z, fuel = z + 1 := ⟨fuel - 1, by omega⟩
        left
        refine ⟨fun e' he' => hc e' (by omega), ?_⟩
        rw [M_isTree_17_s, hx.2.1, if_pos (nI_le (by omega) (by omega))]
      | succ d ih =>
        intro e he hc fuel hf k
        obtain ⟨fuel, rfl⟩ : ∃ z, fuel = z + 1 := ⟨fuel - 1, by omega⟩
        rw [M_isTree_17_s, hx.2.1, if_neg (nI_ge (by omega) (by omega)), M_has_nI (by omega) (by omega), nI_1]
        by_cases hb : x.testBit e = true
        · rw [if_pos hb, if_neg (by decide), grd_t (inb_nI (by omega) (by decide)), nI_clamp (by omega), hx.2.2.2.2.1 e (by omega)]
          have := hcu e (by omega)
          by_cases hz : cu e = 0
          · rw [if_pos ((nI_z (by omega)).mpr hz)]
            exact ih (e + 1) (by omega) (fun e' he' hb' => by
              by_cases y : e' = e
              · rw [y]; exact hz
              · exact hc e' (by omega) hb') fuel (by omega) k
          · rw [if_neg (fun y => hz ((nI_z (by omega)).mp y))]
            right
            exact ⟨fun y => hz (y e (by omega) hb), rfl⟩
        · rw [if_neg hb, if_pos rfl]
          exact ih (e + 1) (by omega) (fun e' he' hb' => by
            by_cases y : e' = e
            · rw [y] at hb'; exact absurd hb' hb
            · exact hc e' (by omega) hb') fuel (by omega) k
    rcases cuts m 0 (by omega) (fun e' h => absurd h (Nat.not_lt_zero e')) N (by omega) (M_isTree_52 N (M_isTree_73 N) N) with ⟨hc, h1⟩ | ⟨hc, h1⟩
    · rw [show (0 : Int32) = nI 0 from rfl, h1]
      -- far is cleared
      have clear : ∀ (d v : Nat), v + d = n → ∀ fuel, d < fuel → ∀ (F S B : Nat → Int32), (∀ u, u < v → F u = -1) → ∀ k : Int32 → St → Option (Int32 × St), ∃ F', (∀ u, u < n → F' u = -1) ∧ M_isTree_52 N k fuel (nI x) (nI v) (sq3 τ F S B) = k (nI x) (sq3 τ F' S B) := by
        intro d
        induction d with
        | zero =>
          intro v hv fuel hf F S B hF k
          obtain ⟨fuel, rfl⟩ : ∃ z, fuel = z + 1 := ⟨fuel - 1, by omega⟩
          refine ⟨F, fun u hu => hF u (by omega), ?_⟩
          have g : (sq3 τ F S B).1 0 = nI n := hx.1
          rw [M_isTree_52_s, g, if_pos (nI_le (by omega) (by omega))]
        | succ d ih =>
          intro v hv fuel hf F S B hF k
          obtain ⟨fuel, rfl⟩ : ∃ z, fuel = z + 1 := ⟨fuel - 1, by omega⟩
          have g : (sq3 τ F S B).1 0 = nI n := hx.1
          obtain ⟨F', hF', e⟩ := ih (v + 1) (by omega) fuel (by omega) (upd F v (-1)) S B (fun u hu => by
            by_cases y : u = v
            · rw [y, upd_s]
            · rw [upd_n _ _ y]; exact hF u (by omega)) k
          refine ⟨F', hF', ?_⟩
          rw [M_isTree_52_s, g, if_neg (nI_ge (by omega) (by omega)), grd_t (inb_nI (by omega) (by decide)), nI_clamp (by omega)]
          unfold lt
          dsimp only
          rw [sq3_7, nI_1, e]
      obtain ⟨F', hF', h2⟩ := clear n 0 (by omega) N (by omega) (τ.2.1 7) (τ.2.1 8) (τ.2.1 9) (fun u h => absurd h (Nat.not_lt_zero u)) (M_isTree_73 N)
      rw [sq3_self] at h2
      rw [show (0 : Int32) = nI 0 from rfl, h2]
      unfold M_isTree_73 lt
      dsimp only
      have groot : inb (nI root) 8 = true := inb_nI (by omega) (by decide)
      have croot : (nI root).toNatClampNeg = root := nI_clamp (by omega)
      have r1 : ∀ F S B, (sq3 τ F S B).1 2 = nI root := fun _ _ _ => hx.2.2.1
      rw [r1, grd_t groot, croot, sq3_7, r1, grd_t groot, croot, sq3_8, r1, grd_t groot, croot, sq3_9]
      -- the start as plain numbers
      have hsel : ∀ v : Nat, ∃ k : Nat, F' v = nI k - 1 := fun v => by
        obtain ⟨k, -, e⟩ := wb_of32 (F' v + 1)
        exact ⟨k, by rw [← e, Int32.add_sub_cancel]⟩
      obtain ⟨f0, hf0⟩ := Classical.axiomOfChoice hsel
      have hf1 : F' = iF (fun v => if v < n then 0 else f0 v) := by
        funext v
        show F' v = nI (if v < n then 0 else f0 v) - 1
        by_cases hv : v < n
        · rw [if_pos hv, hF' v hv]; rfl
        · rw [if_neg hv, hf0 v]
      obtain ⟨fz, hfz⟩ : ∃ fz : Nat → Nat, fz = fun v => if v < n then 0 else f0 v := ⟨_, rfl⟩
      have hfz0 : ∀ v, v < n → fz v = 0 := fun v hv => by rw [hfz]; exact if_pos hv
      rw [hf1, ← hfz, show (0 : Int32) = nI 0 from rfl, iF_upd]
      have hq0 : BJ fr to pr n m root x 1 0 (va_up fz root (0 + 1), upd (τ.2.1 8) root (nI 0), upd (τ.2.1 9) root (-1), 1) := by
        refine ⟨⟨up_s _ _ _, upd_s _ _ _, upd_s _ _ _⟩, fun v hv => ?_, fun v hv hvr hv0 => ?_, fun e' u w _ _ _ hu hcase => ?_, ?_⟩
        · show va_up fz root (0 + 1) v ≤ 1 + 1
          by_cases y : v = root
          · rw [y, up_s]; omega
          · rw [up_n _ _ y, hfz0 v hv]; omega
        · exfalso
          apply hv0
          show va_up fz root (0 + 1) v = 0
          rw [up_n _ _ hvr, hfz0 v hv]
        · exfalso
          rcases hcase with z | ⟨-, z⟩
          · exact hu (by omega)
          · exact absurd z (Nat.not_lt_zero _)
        · show 1 = fb_ct (fun v => decide (va_up fz root (0 + 1) v ≠ 0)) n
          have h0 : fb_ct (fun _ => false) n = 0 := fb_ct_zero.mpr (fun _ _ => rfl)
          have := fb_ct_more (p := fun _ => false) (q := fun v => decide (va_up fz root (0 + 1) v ≠ 0)) hroot rfl (fun k hk => by
            by_cases y : k = root
            · subst y; rw [up_s]; simp
            · rw [up_n _ _ y, hfz0 k hk]; simp [y])
          omega
      have h3 := M_rounds (N := N) hx hn hm hroot hE hN hxm hq0 (M_isTree_197 N) (n - 1) 0 (by omega) N (by omega)
      have h4 : M_isTree_107 N (M_isTree_197 N) N (nI x) 1 1 (sq3 τ (iF (va_up fz root (0 + 1))) (upd (τ.2.1 8) root (nI 0)) (upd (τ.2.1 9) root (-1))) = _ := h3
      rw [h4]
      obtain ⟨q, hqd⟩ : ∃ q, q = bfN fr to pr root x m (n - 1) (va_up fz root (0 + 1), upd (τ.2.1 8) root (nI 0), upd (τ.2.1 9) root (-1), 1) := ⟨_, rfl⟩
      rw [← hqd]
      have hjq : BJ fr to pr n m root x n 0 q := by
        rw [hqd]
        have := BJ_bf hE (n - 1) _ hq0
        rwa [show n - 1 + 1 = n by omega] at this
      have hle : ∀ v, v < n → q.1 v ≤ n := by
        intro v hv
        rcases Nat.lt_or_ge n 2 with z | z
        · have hn' : n = 1 := by omega
          rw [hqd]
          have : n - 1 = 0 := by omega
          rw [this]
          show va_up fz root (0 + 1) v ≤ n
          have : v = root := by omega
          rw [this, up_s]; omega
        · rw [hqd]
          have hb := BJ_rd hE (show 0 < n - 2 + 1 by omega) m _ (Nat.le_refl m) (BJ_bf hE (n - 2) _ hq0)
          have e : bfN fr to pr root x m (n - 1) (va_up fz root (0 + 1), upd (τ.2.1 8) root (nI 0), upd (τ.2.1 9) root (-1), 1) = rdN fr to pr root x (n - 2 + 1) m (bfN fr to pr root x m (n - 2) (va_up fz root (0 + 1), upd (τ.2.1 8) root (nI 0), upd (τ.2.1 9) root (-1), 1)) := by
            rw [show n - 1 = n - 2 + 1 by omega]; rfl
          rw [e]
          have := hb.2.1 v hv
          omega
      have htree := BJ_tree hE hroot hjq hle
      have hti := tree_iff (fr := fr) (to := to) (y := x) (show 0 < n by omega) hE hs
      have hcm : q.2.2.2 ≤ n := by rw [hjq.2.2.2.2]; exact fb_ct_le _ n
      unfold M_isTree_197
      have g0 : (stq τ q).1 0 = nI n := hx.1
      rw [g0]
      by_cases hcn : q.2.2.2 = n
      · left
        refine ⟨⟨hs, hc, hti.mpr (htree.mp hcn)⟩, q, ?_, hjq, fun v hv => ⟨?_, hle v hv⟩⟩
        · rw [if_pos (by rw [hcn])]; rfl
        · rw [hjq.2.2.2.2] at hcn
          exact of_decide_eq_true (fb_ct_all.mp hcn v hv)
      · right
        refine ⟨fun z => hcn (htree.mpr (hti.mp z.2.2)), iF q.1, q.2.1, q.2.2.1, ?_⟩
        rw [if_neg (fun y => hcn ((nI_eq (by omega) (by omega)).mp y))]
        rfl
    · right
      refine ⟨fun z => hc z.2.1, τ.2.1 7, τ.2.1 8, τ.2.1 9, ?_⟩
      rw [sq3_self, show (0 : Int32) = nI 0 from rfl, h1]
      rfl
  · right
    refine ⟨fun z => hs z.1, τ.2.1 7, τ.2.1 8, τ.2.1 9, ?_⟩
    have hpk : pck m x ≤ m := fb_ct_le _ m
    rw [sq3_self, if_neg (fun z => hs (by have := (nI_eq (by omega) (by omega)).mp z; omega))]
