/-! the class's walk of a tree -/
def mk : Nat → (Nat → Bool) → Nat
  | 0, _ => 0
  | m + 1, p => mk m p + if p m = true then 2 ^ m else 0
theorem mk_lt (p : Nat → Bool) : ∀ m, mk m p < 2 ^ m := by
  intro m
  induction m with
  | zero => exact Nat.zero_lt_one
  | succ m ih => unfold mk; rw [Nat.pow_succ]; split <;> omega
theorem mk_bit (p : Nat → Bool) : ∀ (m e : Nat), (mk m p).testBit e = (decide (e < m) && p e) := by
  intro m
  induction m with
  | zero => intro e; simp [mk]
  | succ m ih =>
    intro e
    unfold mk
    by_cases h : p m = true
    · rw [if_pos h]
      rcases Nat.lt_trichotomy e m with z | z | z
      · rw [Nat.add_comm, Nat.testBit_two_pow_add_gt z, ih]; simp [z, Nat.lt_succ_of_lt z]
      · subst z
        rw [Nat.add_comm, Nat.testBit_two_pow_add_eq, Nat.testBit_lt_two_pow (mk_lt p e)]; simp [h]
      · have h1 := mk_lt p m
        have h2 : mk m p + 2 ^ m < 2 ^ e := Nat.lt_of_lt_of_le (show mk m p + 2 ^ m < 2 ^ (m + 1) by rw [Nat.pow_succ]; omega) (Nat.pow_le_pow_right (by decide) z)
        rw [Nat.testBit_lt_two_pow h2]; simp [show ¬ e < m + 1 by omega]
    · rw [if_neg h, Nat.add_zero, ih]
      by_cases z : e = m
      · subst z; simp [h]
      · have : (e < m) ↔ (e < m + 1) := by omega
        simp [this]
def atm (fr to : Nat → Nat) (m v : Nat) : Nat := mk m (fun e => decide (fr e = v) || decide (to e = v))
theorem lt14 {a m : Nat} (h : a < 2 ^ m) (hm : m ≤ 14) : a < 2 ^ 14 := Nat.lt_of_lt_of_le h (Nat.pow_le_pow_right (by decide) hm)
/-- the lines of y at w, as bits -/
theorem cel_bl {fr to : Nat → Nat} {m : Nat} (hm : m ≤ 14) (y w : Nat) : cel fr to m y w = bl (y &&& atm fr to m w) := by
  unfold cel bl
  rw [show (14 : Nat) = m + (14 - m) by omega, List.range_add, List.filter_append]
  have h2 : ((List.range (14 - m)).map (fun k => m + k)).filter (fun e => (y &&& atm fr to m w).testBit e) = [] := List.filter_eq_nil_iff.mpr (fun i hi => by
    obtain ⟨k, -, rfl⟩ := List.mem_map.mp hi
    rw [Nat.testBit_and, atm, mk_bit]; simp; omega)
  rw [h2, List.append_nil]
  refine List.filter_congr (fun e he => ?_)
  rw [Nat.testBit_and, atm, mk_bit]
  simp [List.mem_range.mp he]
/-- the net as the class holds it -/
def NX (σ : St) (n m root : Nat) (fr to pr dm : Nat → Nat) : Prop := σ.1 0 = nI n ∧ σ.1 1 = nI root ∧ σ.1 2 = nI m ∧ (∀ e, e < m → σ.2.1 2 e = nI (fr e) ∧ σ.2.1 3 e = nI (to e) ∧ σ.2.1 4 e = nI (pr e)) ∧ (∀ v, v < 8 → σ.2.1 0 v = nI (dm v) ∧ σ.2.1 1 v = nI (atm fr to m v))
def WN (n m root : Nat) (fr to pr dm : Nat → Nat) : Prop := 2 ≤ n ∧ n ≤ 8 ∧ m ≤ 14 ∧ root < n ∧ (∀ e, e < m → fr e < n ∧ to e < n ∧ fr e ≠ to e ∧ pr e ≤ 999) ∧ (∀ v, v < 8 → dm v ≤ 99)
def shS (σ : St) (p d w : Nat) : St := (fun k => if k = 11 then nI p else if k = 12 then nI d else if k = 14 then nI w else σ.1 k, σ.2)
theorem shS_p (σ : St) (p d w p' : Nat) : si (shS σ p d w) 11 (nI p') = shS σ p' d w := by
  unfold si shS va_up
  refine Prod.ext (funext fun k => ?_) rfl
  dsimp only
  by_cases h : k = 11 <;> simp [h]
theorem shS_d (σ : St) (p d w d' : Nat) : si (shS σ p d w) 12 (nI d') = shS σ p d' w := by
  unfold si shS va_up
  refine Prod.ext (funext fun k => ?_) rfl
  dsimp only
  by_cases h : k = 12
  · subst h; simp
  · simp [h]
theorem shS_w (σ : St) (p d w w' : Nat) : si (shS σ p d w) 14 (nI w') = shS σ p d w' := by
  unfold si shS va_up
  refine Prod.ext (funext fun k => ?_) rfl
  dsimp only
  by_cases h : k = 14
  · subst h; simp
  · simp [h]
abbrev TL4 : Type := List (Nat × Nat × Nat × Nat)
def fP (pr : Nat → Nat) (p : Nat) (L : TL4) : Nat := p + (L.map (fun t => pr t.2.1)).sum
def fD (d : Nat) (L : TL4) : Nat := (L.map (fun t => t.2.2.1)).foldl max d
def fW (w : Nat) (L : TL4) : Nat := (L.map (fun t => t.2.2.2)).foldl max w
def fM (dm : Nat → Nat) (L : TL4) : Nat := (L.map (fun t => dm t.1)).sum
theorem fP_app (pr : Nat → Nat) (p : Nat) (L R : TL4) : fP pr (fP pr p L) R = fP pr p (L ++ R) := by unfold fP; rw [List.map_append, List.sum_append]; omega
theorem fD_app (d : Nat) (L R : TL4) : fD (fD d L) R = fD d (L ++ R) := by unfold fD; rw [List.map_append, List.foldl_append]
theorem fW_app (d : Nat) (L R : TL4) : fW (fW d L) R = fW d (L ++ R) := by unfold fW; rw [List.map_append, List.foldl_append]
theorem foldl_max_le {L : List Nat} : ∀ {d b : Nat}, d ≤ b → (∀ a, a ∈ L → a ≤ b) → L.foldl max d ≤ b := by
  induction L with
  | nil => intro d b h _; exact h
  | cons a L ih => intro d b h1 h2; exact ih (Nat.max_le.mpr ⟨h1, h2 a List.mem_cons_self⟩) (fun c hc => h2 c (List.mem_cons_of_mem _ hc))
theorem dl_bound {fr to pr : Nat → Nat} {m : Nat} (hpr : ∀ e, e < m → pr e ≤ 999) : ∀ (h y e v d s : Nat), e < m → ∀ t, t ∈ dl fr to pr m h y e v d s → t.2.2.1 < d + h ∧ t.2.2.2 ≤ s + 999 * h := by
  intro h
  induction h with
  | zero => intro y e v d s _ t ht; cases ht
  | succ h ih =>
    intro y e v d s he t ht
    rcases List.mem_cons.mp ht with rfl | ht
    · have := hpr e he
      exact ⟨by show d < d + (h + 1); omega, by show s + pr e ≤ _; omega⟩
    · obtain ⟨e', he', ht⟩ := List.mem_flatMap.mp ht
      have h1 : e' < m := List.mem_range.mp (List.mem_filter.mp he').1
      have h2 := ih _ _ _ _ _ h1 t ht
      have := hpr e he
      omega
theorem Sh_dem {σ : St} {n m root : Nat} {fr to pr dm : Nat → Nat} (hw : WN n m root fr to pr dm) (hx : NX σ n m root fr to pr dm) {N : Nat} (hN : 20 ≤ N) : ∀ (h e v y d s p dd ww : Nat), e < m → (v = fr e ∨ v = to e) → y < 2 ^ m → d + h = 8 → s + 999 * h ≤ 100000 → ww ≤ 100000 → dd ≤ 8 →
    Sh_demandsBehind N (h + 1) (nI e) (nI v) (nI y) (nI d) (nI s) (shS σ p dd ww) = some (nI (fM dm (dl fr to pr m h y e v d s)), shS σ (fP pr p (dl fr to pr m h y e v d s)) (fD dd (dl fr to pr m h y e v d s)) (fW ww (dl fr to pr m h y e v d s))) := by
  obtain ⟨hn2, hn8, hm, hroot, hE, hdm⟩ := hw
  obtain ⟨x0, x1, x2, xe, xv⟩ := hx
  intro h
  induction h with
  | zero =>
    intro e v y d s p dd ww he hv hy hd hs hww hdd
    have : d = 8 := by omega
    subst this
    rw [Sh_demandsBehind_s]
    unfold Sh_demandsBehind_b
    rw [if_neg (by decide)]
    simp only [dl, fM, fP, fD, fW, List.map_nil, List.sum_nil, List.foldl_nil, Nat.add_zero]
    rfl
  | succ h ih =>
    intro e v y d s p dd ww he hv hy hd hs hww hdd
    obtain ⟨e1, e2, e3, e4⟩ := hE e he
    obtain ⟨y1, y2, y3⟩ := xe e he
    rw [Sh_demandsBehind_s]
    unfold Sh_demandsBehind_b
    rw [if_pos (show nI d < (8 : Int32) from (nI_ltI (b := 8) (by omega) (by decide)).mpr (show d < 8 by omega))]
    have hg : inb (nI e) 14 = true := inb_nI (by omega) (by decide)
    rw [grd_t hg, grd_t hg]
    have hc : (nI e).toNatClampNeg = e := nI_clamp (by omega)
    have a2 : (shS σ p dd ww).2 = σ.2 := rfl
    rw [hc, a2, y1, y2, y3]
    obtain ⟨w, hwd⟩ : ∃ w, w = fr e + to e - v := ⟨_, rfl⟩
    have hwn : w < n := by rcases hv with rfl | rfl <;> omega
    have hw1 : nI (fr e) + nI (to e) - nI v = nI w := by rw [nI_add, pk_sub (by rcases hv with rfl | rfl <;> omega), hwd]
    unfold lt
    dsimp only
    rw [hw1, grd_t hg, nI_add, shl1 e (by omega), fb_xorI, grd_t hg]
    have b11 : (shS σ p dd ww).1 11 = nI p := rfl
    rw [b11, nI_add, shS_p]
    have b12 : (shS σ (p + pr e) dd ww).1 12 = nI dd := rfl
    rw [b12, imax_nI (by omega) (by omega), shS_d]
    have b14 : (shS σ (p + pr e) (max dd d) ww).1 14 = nI ww := rfl
    rw [b14, imax_nI (by omega) (by omega), shS_w]
    have hgw : inb (nI w) 8 = true := inb_nI (by omega) (by decide)
    have hcw : (nI w).toNatClampNeg = w := nI_clamp (by omega)
    have a3 : (shS σ (p + pr e) (max dd d) (max ww (s + pr e))).2 = σ.2 := rfl
    rw [grd_t hgw, hcw, a3, (xv w (by omega)).1, grd_t hgw, (xv w (by omega)).2, fa_and]
    have hyx : y ^^^ 2 ^ e < 2 ^ m := Nat.xor_lt_two_pow hy (Nat.pow_lt_pow_right (by decide) he)
    have hmask : (y ^^^ 2 ^ e) &&& atm fr to m w < 2 ^ m := Nat.lt_of_le_of_lt Nat.and_le_left hyx
    -- the loop over the lines that hang on w
    have loop : ∀ (k a : Nat), (bl a).length ≤ k → a < 2 ^ 14 → (∀ e', e' ∈ bl a → e' ∈ cel fr to m (y ^^^ 2 ^ e) w) → ∀ (fuel acc : Nat), k < fuel → ∀ p1 d1 w1, d1 ≤ 8 → w1 ≤ 100000 →
        Sh_demandsBehind_124 N (Sh_demandsBehind N (h + 1)) fuel (nI d) (nI w) (nI (s + pr e)) (nI (y ^^^ 2 ^ e)) (nI acc) (nI a) (shS σ p1 d1 w1) = some (nI (acc + fM dm ((bl a).flatMap (fun e' => dl fr to pr m h (y ^^^ 2 ^ e) e' w (d + 1) (s + pr e)))), shS σ (fP pr p1 ((bl a).flatMap (fun e' => dl fr to pr m h (y ^^^ 2 ^ e) e' w (d + 1) (s + pr e)))) (fD d1 ((bl a).flatMap (fun e' => dl fr to pr m h (y ^^^ 2 ^ e) e' w (d + 1) (s + pr e)))) (fW w1 ((bl a).flatMap (fun e' => dl fr to pr m h (y ^^^ 2 ^ e) e' w (d + 1) (s + pr e))))) := by
      intro k
      induction k with
      | zero =>
        intro a hl ha _ fuel acc hf p1 d1 w1 hd1 hw1
        obtain ⟨fuel, rfl⟩ : ∃ z, fuel = z + 1 := ⟨fuel - 1, by omega⟩
        have hb : bl a = [] := List.length_eq_zero_iff.mp (Nat.le_zero.mp hl)
        have ha0 : a = 0 := by
          rcases Nat.eq_zero_or_pos a with z | z
          · exact z
          · obtain ⟨l, -, -, -, hbl, -⟩ := bl_step z ha
            rw [hb] at hbl; cases hbl
        rw [Sh_demandsBehind_124_s, if_pos ((nI_z (by omega)).mpr ha0), hb]
        simp only [List.flatMap_nil, fM, fP, fD, fW, List.map_nil, List.sum_nil, List.foldl_nil, Nat.add_zero]
      | succ k ihk =>
        intro a hl ha hmem fuel acc hf p1 d1 w1 hd1 hw1
        obtain ⟨fuel, rfl⟩ : ∃ z, fuel = z + 1 := ⟨fuel - 1, by omega⟩
        rw [Sh_demandsBehind_124_s]
        rcases Nat.eq_zero_or_pos a with z | z
        · rw [if_pos ((nI_z (by omega)).mpr z), z, bl_zero]
          simp only [List.flatMap_nil, fM, fP, fD, fW, List.map_nil, List.sum_nil, List.foldl_nil, Nat.add_zero]
        · obtain ⟨l, hl14, hlow, hclr, hbl, hlt, hbit, hle⟩ := bl_step z ha
          rw [if_neg (fun y => by have := (nI_z (by omega)).mp y; omega), hlow, hclr]
          have hlc := hmem l (by rw [hbl]; exact List.mem_cons_self)
          have hlm : l < m := List.mem_range.mp (List.mem_filter.mp hlc).1
          have hinc : w = fr l ∨ w = to l := by
            have := (List.mem_filter.mp hlc).2
            rw [Bool.and_eq_true, Bool.or_eq_true, decide_eq_true_eq, decide_eq_true_eq] at this
            rcases this.2 with z | z
            · exact Or.inl z.symm
            · exact Or.inr z.symm
          have hrec := ih l w (y ^^^ 2 ^ e) (d + 1) (s + pr e) p1 d1 w1 hlm hinc hyx (by omega) (by omega) hw1 hd1
          rw [show (1 : Int32) = nI 1 from rfl, nI_add, bnd2_t hrec, nI_add]
          have hdb := dl_bound (fr := fr) (to := to) (pr := pr) (m := m) (fun e he => (hE e he).2.2.2) h (y ^^^ 2 ^ e) l w (d + 1) (s + pr e) hlm
          have hD : fD d1 (dl fr to pr m h (y ^^^ 2 ^ e) l w (d + 1) (s + pr e)) ≤ 8 := foldl_max_le hd1 (fun c hc => by
            obtain ⟨t, ht, rfl⟩ := List.mem_map.mp hc
            have := (hdb t ht).1; omega)
          have hW : fW w1 (dl fr to pr m h (y ^^^ 2 ^ e) l w (d + 1) (s + pr e)) ≤ 100000 := foldl_max_le hw1 (fun c hc => by
            obtain ⟨t, ht, rfl⟩ := List.mem_map.mp hc
            have := (hdb t ht).2; omega)
          rw [hbl] at hl hmem
          have h2 := ihk (a - 2 ^ l) (by simpa using hl) hlt (fun e' he' => hmem e' (List.mem_cons_of_mem _ he')) fuel (acc + fM dm (dl fr to pr m h (y ^^^ 2 ^ e) l w (d + 1) (s + pr e))) (by omega) (fP pr p1 (dl fr to pr m h (y ^^^ 2 ^ e) l w (d + 1) (s + pr e))) _ _ hD hW
          rw [h2, hbl, List.flatMap_cons, fP_app, fD_app, fW_app]
          congr 3
          unfold fM
          rw [List.map_append, List.sum_append]
          omega
    have hl := loop 14 ((y ^^^ 2 ^ e) &&& atm fr to m w) (bl_len _) (lt14 hmask hm) (fun e' he' => by rw [cel_bl hm]; exact he') N (dm w) (by omega) (p + pr e) (max dd d) (max ww (s + pr e)) (Nat.max_le.mpr ⟨hdd, by omega⟩) (Nat.max_le.mpr ⟨hww, by omega⟩)
    rw [hl, ← cel_bl hm]
    have hdl : dl fr to pr m (h + 1) y e v d s = (w, e, d, s + pr e) :: (cel fr to m (y ^^^ 2 ^ e) w).flatMap (fun e' => dl fr to pr m h (y ^^^ 2 ^ e) e' w (d + 1) (s + pr e)) := by rw [hwd]; rfl
    rw [hdl]
    simp only [fM, fP, fD, fW, List.map_cons, List.sum_cons, List.foldl_cons]
    rw [Nat.add_assoc]
/-- all that hangs on the root, line by line -/
def rW (fr to pr : Nat → Nat) (m root x : Nat) : TL4 := (cel fr to m x root).flatMap (fun e => dl fr to pr m 7 x e root 1 0)
def mL (fr to pr dm : Nat → Nat) (m root x : Nat) : Nat := ((cel fr to m x root).map (fun e => fM dm (dl fr to pr m 7 x e root 1 0))).foldl max 0
def wkS (σ : St) (p d l w : Nat) : St := shS (si σ 13 (nI l)) p d w
theorem wkS_l (σ : St) (p d l w l' : Nat) : si (wkS σ p d l w) 13 (nI l') = wkS σ p d l' w := by
  unfold wkS shS si va_up
  refine Prod.ext (funext fun k => ?_) rfl
  dsimp only
  by_cases h : k = 13
  · subst h; simp
  · simp [h]
theorem NX_13 {σ : St} {n m root : Nat} {fr to pr dm : Nat → Nat} (h : NX σ n m root fr to pr dm) (v : Int32) : NX (si σ 13 v) n m root fr to pr dm := h
theorem sum_le_of {L : List Nat} {b : Nat} (h : ∀ a, a ∈ L → a ≤ b) : L.sum ≤ L.length * b := by
  induction L with
  | nil => simp
  | cons a L ih =>
    rw [List.sum_cons, List.length_cons, Nat.succ_mul]
    have := h a List.mem_cons_self
    have := ih (fun c hc => h c (List.mem_cons_of_mem _ hc))
    omega
theorem Sh_walk_ok {σ : St} {n m root : Nat} {fr to pr dm : Nat → Nat} (hw : WN n m root fr to pr dm) (hx : NX σ n m root fr to pr dm) {N : Nat} (hN : 20 ≤ N) {x : Nat} (hxm : x < 2 ^ m) (hb : ∀ e, e ∈ cel fr to m x root → fM dm (dl fr to pr m 7 x e root 1 0) < 2 ^ 31) : Sh_walk N (nI x) σ = some (wkS σ (fP pr 0 (rW fr to pr m root x)) (fD 0 (rW fr to pr m root x)) (mL fr to pr dm m root x) (fW 0 (rW fr to pr m root x))) := by
  have hw' := hw
  obtain ⟨hn2, hn8, hm, hroot, hE, hdm⟩ := hw
  have loop : ∀ (k a : Nat), (bl a).length ≤ k → a < 2 ^ 14 → (∀ e', e' ∈ bl a → e' ∈ cel fr to m x root) → ∀ (fuel : Nat), k < fuel → ∀ p1 d1 l1 w1, d1 ≤ 8 → l1 < 2 ^ 31 → w1 ≤ 100000 →
      Sh_walk_38 N fuel (nI x) (nI a) (wkS σ p1 d1 l1 w1) = some (wkS σ (fP pr p1 ((bl a).flatMap (fun e => dl fr to pr m 7 x e root 1 0))) (fD d1 ((bl a).flatMap (fun e => dl fr to pr m 7 x e root 1 0))) (((bl a).map (fun e => fM dm (dl fr to pr m 7 x e root 1 0))).foldl max l1) (fW w1 ((bl a).flatMap (fun e => dl fr to pr m 7 x e root 1 0)))) := by
    intro k
    induction k with
    | zero =>
      intro a hl ha _ fuel hf p1 d1 l1 w1 hd1 hl1 hw1
      obtain ⟨fuel, rfl⟩ : ∃ z, fuel = z + 1 := ⟨fuel - 1, by omega⟩
      have hb0 : bl a = [] := List.length_eq_zero_iff.mp (Nat.le_zero.mp hl)
      have ha0 : a = 0 := by
        rcases Nat.eq_zero_or_pos a with z | z
        · exact z
        · obtain ⟨l, -, -, -, hbl, -⟩ := bl_step z ha
          rw [hb0] at hbl; cases hbl
      rw [Sh_walk_38_s, if_pos ((nI_z (by omega)).mpr ha0), hb0]
      simp only [List.flatMap_nil, fP, fD, fW, List.map_nil, List.sum_nil, List.foldl_nil, Nat.add_zero]
    | succ k ihk =>
      intro a hl ha hmem fuel hf p1 d1 l1 w1 hd1 hl1 hw1
      obtain ⟨fuel, rfl⟩ : ∃ z, fuel = z + 1 := ⟨fuel - 1, by omega⟩
      rw [Sh_walk_38_s]
      rcases Nat.eq_zero_or_pos a with z | z
      · rw [if_pos ((nI_z (by omega)).mpr z), z, bl_zero]
        simp only [List.flatMap_nil, fP, fD, fW, List.map_nil, List.sum_nil, List.foldl_nil, Nat.add_zero]
      · obtain ⟨l, hl14, hlow, hclr, hbl, hlt, hbit, hle⟩ := bl_step z ha
        rw [if_neg (fun y => by have := (nI_z (by omega)).mp y; omega), hlow, hclr]
        have hlc := hmem l (by rw [hbl]; exact List.mem_cons_self)
        have hlm : l < m := List.mem_range.mp (List.mem_filter.mp hlc).1
        have hinc : root = fr l ∨ root = to l := by
          have := (List.mem_filter.mp hlc).2
          rw [Bool.and_eq_true, Bool.or_eq_true, decide_eq_true_eq, decide_eq_true_eq] at this
          rcases this.2 with z | z
          · exact Or.inl z.symm
          · exact Or.inr z.symm
        have r1 : (wkS σ p1 d1 l1 w1).1 1 = nI root := hx.2.1
        have r2 : (wkS σ p1 d1 l1 w1).1 13 = nI l1 := rfl
        rw [r1, r2, show (1 : Int32) = nI 1 from rfl, show (0 : Int32) = nI 0 from rfl]
        have hrec := Sh_dem hw' (NX_13 hx (nI l1)) hN 7 l root x 1 0 p1 d1 w1 hlm hinc hxm (by omega) (by omega) hw1 hd1
        have hrec2 : Sh_demandsBehind N 8 (nI l) (nI root) (nI x) (nI 1) (nI 0) (wkS σ p1 d1 l1 w1) = _ := hrec
        rw [bnd2_t hrec2]
        unfold lt
        have hdb := dl_bound (fr := fr) (to := to) (pr := pr) (m := m) (fun e he => (hE e he).2.2.2) 7 x l root 1 0 hlm
        have hD : fD d1 (dl fr to pr m 7 x l root 1 0) ≤ 8 := foldl_max_le hd1 (fun c hc => by
          obtain ⟨t, ht, rfl⟩ := List.mem_map.mp hc
          have := (hdb t ht).1; omega)
        have hW : fW w1 (dl fr to pr m 7 x l root 1 0) ≤ 100000 := foldl_max_le hw1 (fun c hc => by
          obtain ⟨t, ht, rfl⟩ := List.mem_map.mp hc
          have := (hdb t ht).2; omega)
        have hbl' := hb l hlc
        rw [imax_nI hl1 hbl']
        have e1 : si (shS (si σ 13 (nI l1)) (fP pr p1 (dl fr to pr m 7 x l root 1 0)) (fD d1 (dl fr to pr m 7 x l root 1 0)) (fW w1 (dl fr to pr m 7 x l root 1 0))) 13 (nI (max l1 (fM dm (dl fr to pr m 7 x l root 1 0)))) = wkS σ (fP pr p1 (dl fr to pr m 7 x l root 1 0)) (fD d1 (dl fr to pr m 7 x l root 1 0)) (max l1 (fM dm (dl fr to pr m 7 x l root 1 0))) (fW w1 (dl fr to pr m 7 x l root 1 0)) := wkS_l _ _ _ _ _ _
        rw [e1]
        dsimp only
        rw [hbl] at hl hmem
        rw [ihk (a - 2 ^ l) (by simpa using hl) hlt (fun e' he' => hmem e' (List.mem_cons_of_mem _ he')) fuel (by omega) _ _ _ _ hD (Nat.max_lt.mpr ⟨hl1, hbl'⟩) hW, hbl, List.flatMap_cons, fP_app, fD_app, fW_app, List.map_cons, List.foldl_cons]
  unfold Sh_walk lt
  dsimp only
  have hst : si (si (si (si σ 11 0) 12 0) 13 0) 14 0 = wkS σ 0 0 0 0 := by
    unfold wkS shS si va_up
    refine Prod.ext (funext fun k => ?_) rfl
    dsimp only
    by_cases h1 : k = 11
    · subst h1; rfl
    · by_cases h2 : k = 12
      · subst h2; rfl
      · by_cases h3 : k = 13
        · subst h3; rfl
        · by_cases h4 : k = 14
          · subst h4; rfl
          · simp [h1, h2, h3, h4]
  rw [hst]
  have r1 : (wkS σ 0 0 0 0).1 1 = nI root := hx.2.1
  have r2 : (wkS σ 0 0 0 0).2 = σ.2 := rfl
  rw [r1, r2, grd_t (inb_nI (by omega) (by decide)), nI_clamp (by omega), (hx.2.2.2.2 root (by omega)).2, fa_and]
  have hmask : x &&& atm fr to m root < 2 ^ m := Nat.lt_of_le_of_lt Nat.and_le_left hxm
  rw [loop 14 (x &&& atm fr to m root) (bl_len _) (lt14 hmask hm) (fun e' he' => by rw [cel_bl hm]; exact he') N (by omega) 0 0 0 0 (by omega) (by decide) (by omega), ← cel_bl hm]
  rfl
