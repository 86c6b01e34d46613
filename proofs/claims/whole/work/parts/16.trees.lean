/-! nets and their trees, as numbers: labels of what is joined, trees by their bits -/
def mg (c : Nat → Nat) (a b : Nat) : Nat → Nat := fun v => if c v = c b then c a else c v
/-- sets of lines below j that make of k joined parts one, with s: by their bits -/
def tl (fr to : Nat → Nat) : Nat → (Nat → Nat) → Nat → Nat → List Nat
  | 0, _, k, s => if k = 1 then [s] else []
  | j + 1, c, k, s => tl fr to j c k s ++ (if c (fr j) = c (to j) then [] else tl fr to j (mg c (fr j) (to j)) (k - 1) (s + 2 ^ j))
def ac (fr to : Nat → Nat) : Nat → (Nat → Nat) → Nat → Bool
  | 0, _, _ => true
  | j + 1, c, y => if y.testBit j = true then (if c (fr j) = c (to j) then false else ac fr to j (mg c (fr j) (to j)) y) else ac fr to j c y
def fl (fr to : Nat → Nat) : Nat → (Nat → Nat) → Nat → (Nat → Nat)
  | 0, c, _ => c
  | j + 1, c, y => if y.testBit j = true then fl fr to j (mg c (fr j) (to j)) y else fl fr to j c y
def us (c : Nat → Nat) (n l : Nat) : Bool := (List.range n).any (fun v => decide (c v = l))
def ncl (c : Nat → Nat) (n : Nat) : Nat := fb_ct (us c n) n
theorem us_iff {c : Nat → Nat} {n l : Nat} : us c n l = true ↔ ∃ v, v < n ∧ c v = l := by
  unfold us
  simp [List.any_eq_true]
theorem mg_same {c : Nat → Nat} {a b : Nat} (h : c a = c b) : mg c a b = c := by
  funext v
  unfold mg
  split
  · rename_i q; rw [q, h]
  · rfl
theorem mg_lt {c : Nat → Nat} {a b n : Nat} (ha : a < n) (h : ∀ v, v < n → c v < n) : ∀ v, v < n → mg c a b v < n := by
  intro v hv
  unfold mg
  split
  · exact h a ha
  · exact h v hv
theorem fb_ct_drop {p q : Nat → Bool} {i n : Nat} (hi : i < n) (hp : p i = true) (hq : ∀ k, k < n → q k = (p k && decide (k ≠ i))) : fb_ct q n + 1 = fb_ct p n := by
  have h1 := fb_ct_upd p false hi
  have h2 : fb_ct q n = fb_ct (fun k => if k = i then false else p k) n := fb_ct_cong (fun k hk => by
    rw [hq k hk]
    by_cases e : k = i
    · simp [e]
    · simp [e])
  rw [h2]
  rw [if_pos hp, if_neg (show ¬ (false = true) by decide)] at h1
  omega
theorem ncl_mg {c : Nat → Nat} {n a b : Nat} (ha : a < n) (hb : b < n) (hc : ∀ v, v < n → c v < n) (h : c a ≠ c b) : ncl (mg c a b) n + 1 = ncl c n := by
  refine fb_ct_drop (i := c b) (hc b hb) (us_iff.mpr ⟨b, hb, rfl⟩) (fun l _ => ?_)
  rw [Bool.eq_iff_iff]
  simp only [Bool.and_eq_true, decide_eq_true_eq, us_iff]
  constructor
  · rintro ⟨v, hv, e⟩
    unfold mg at e
    split at e
    · exact ⟨⟨a, ha, e⟩, fun q => h (by rw [e, q])⟩
    · rename_i z
      exact ⟨⟨v, hv, e⟩, fun q => z (by rw [e, q])⟩
  · rintro ⟨⟨v, hv, e⟩, ne⟩
    refine ⟨v, hv, ?_⟩
    unfold mg
    rw [if_neg (fun q => ne (by rw [← e, q])), e]
theorem ncl_id (n : Nat) : ncl (fun v => v) n = n := fb_ct_all.mpr (fun k hk => us_iff.mpr ⟨k, hk, rfl⟩)
theorem ncl_pos {c : Nat → Nat} {n : Nat} (hn : 0 < n) (hc : ∀ v, v < n → c v < n) : 0 < ncl c n := fb_ct_pos.mpr ⟨c 0, hc 0 hn, us_iff.mpr ⟨0, hn, rfl⟩⟩
theorem fb_ct_one {p : Nat → Bool} {n i j : Nat} (h : fb_ct p n = 1) (hi : i < n) (hj : j < n) (pi : p i = true) (pj : p j = true) : i = j := by
  rcases Nat.lt_trichotomy i j with q | q | q
  · exfalso
    have h1 : fb_ct p (i + 1) = fb_ct p i + 1 := by rw [fb_ct_succ, if_pos pi]
    have h2 : fb_ct p (j + 1) = fb_ct p j + 1 := by rw [fb_ct_succ, if_pos pj]
    have h3 := fb_ct_mono p (show i + 1 ≤ j by omega)
    have h4 := fb_ct_mono p (show j + 1 ≤ n by omega)
    omega
  · exact q
  · exfalso
    have h1 : fb_ct p (i + 1) = fb_ct p i + 1 := by rw [fb_ct_succ, if_pos pi]
    have h2 : fb_ct p (j + 1) = fb_ct p j + 1 := by rw [fb_ct_succ, if_pos pj]
    have h3 := fb_ct_mono p (show j + 1 ≤ i by omega)
    have h4 := fb_ct_mono p (show i + 1 ≤ n by omega)
    omega
theorem ncl_one {c : Nat → Nat} {n : Nat} (hn : 0 < n) (hc : ∀ v, v < n → c v < n) : ncl c n = 1 ↔ ∀ v, v < n → c v = c 0 := by
  constructor
  · intro h v hv
    exact fb_ct_one h (hc v hv) (hc 0 hn) (us_iff.mpr ⟨v, hv, rfl⟩) (us_iff.mpr ⟨0, hn, rfl⟩)
  · intro h
    have e : ncl c n = fb_ct (fun l => decide (l = c 0)) n := fb_ct_cong (fun l _ => by
      rw [Bool.eq_iff_iff, us_iff]
      simp only [decide_eq_true_eq]
      constructor
      · rintro ⟨v, hv, e⟩; rw [← e, h v hv]
      · intro e; exact ⟨0, hn, e.symm⟩)
    rw [e]
    have h2 := fb_ct_drop (p := fun l => decide (l = c 0)) (q := fun _ => false) (i := c 0) (n := n) (hc 0 hn) (by simp) (fun k _ => by by_cases q : k = c 0 <;> simp [q])
    have h3 : fb_ct (fun _ => false) n = 0 := fb_ct_zero.mpr (fun _ _ => rfl)
    omega
theorem pck_succ (j y : Nat) : pck (j + 1) y = pck j y + (if y.testBit j = true then 1 else 0) := by unfold pck; rw [fb_ct_succ]
/-- the lines of a net have their ends below n -/
def ends (fr to : Nat → Nat) (n m : Nat) : Prop := ∀ e, e < m → fr e < n ∧ to e < n
theorem ends.mono {fr to : Nat → Nat} {n m k : Nat} (h : ends fr to n m) (hk : k ≤ m) : ends fr to n k := fun e he => h e (Nat.lt_of_lt_of_le he hk)
theorem fl_lt {fr to : Nat → Nat} {n : Nat} : ∀ (j : Nat) (c : Nat → Nat) (y : Nat), ends fr to n j → (∀ v, v < n → c v < n) → ∀ v, v < n → fl fr to j c y v < n := by
  intro j
  induction j with
  | zero => intro c y _ hc v hv; exact hc v hv
  | succ j ih =>
    intro c y he hc v hv
    unfold fl
    split
    · exact ih _ y (he.mono (Nat.le_succ j)) (mg_lt (he j (Nat.lt_succ_self j)).1 hc) v hv
    · exact ih _ y (he.mono (Nat.le_succ j)) hc v hv
theorem fl_ncl {fr to : Nat → Nat} {n : Nat} : ∀ (j : Nat) (c : Nat → Nat) (y : Nat), ends fr to n j → (∀ v, v < n → c v < n) → ncl c n ≤ ncl (fl fr to j c y) n + pck j y ∧ (ac fr to j c y = true ↔ ncl c n = ncl (fl fr to j c y) n + pck j y) := by
  intro j
  induction j with
  | zero => intro c y _ hc; simp [fl, ac, pck, fb_ct]
  | succ j ih =>
    intro c y he hc
    rw [pck_succ]
    unfold fl ac
    by_cases hb : y.testBit j = true
    · rw [if_pos hb, if_pos hb, if_pos hb]
      by_cases h : c (fr j) = c (to j)
      · rw [if_pos h, mg_same h]
        have h1 := (ih c y (he.mono (Nat.le_succ j)) hc).1
        refine ⟨by omega, ⟨fun q => by simp at q, fun q => by omega⟩⟩
      · rw [if_neg h]
        have h1 := ncl_mg (he j (Nat.lt_succ_self j)).1 (he j (Nat.lt_succ_self j)).2 hc h
        have h2 := ih (mg c (fr j) (to j)) y (he.mono (Nat.le_succ j)) (mg_lt (he j (Nat.lt_succ_self j)).1 hc)
        refine ⟨by omega, ?_⟩
        rw [h2.2]
        omega
    · rw [if_neg hb, if_neg hb, if_neg hb]
      exact ih c y (he.mono (Nat.le_succ j)) hc
/-- a tree of the net: n - 1 lines that join all -/
theorem tree_iff {fr to : Nat → Nat} {n m y : Nat} (hn : 0 < n) (he : ends fr to n m) (hp : pck m y + 1 = n) : ac fr to m (fun v => v) y = true ↔ ∀ v, v < n → fl fr to m (fun v => v) y v = fl fr to m (fun v => v) y 0 := by
  have h := (fl_ncl m (fun v => v) y he (fun v hv => hv)).2
  rw [ncl_id] at h
  rw [h, ← ncl_one hn (fl_lt m _ y he (fun v hv => hv))]
  omega
/-- labels and sets that are closed under the lines -/
theorem mg_comp {c : Nat → Nat} {U : Nat → Prop} {a b : Nat} (hc : ∀ u v, c u = c v → (U u ↔ U v)) (h : U a ↔ U b) : ∀ u v, mg c a b u = mg c a b v → (U u ↔ U v) := by
  intro u v e
  unfold mg at e
  split at e <;> split at e
  · rename_i p q; exact hc u v (p.trans q.symm)
  · rename_i p q; exact (hc u b p).trans (h.symm.trans (hc a v e))
  · rename_i p q; exact (hc u a e).trans (h.trans (hc v b q).symm)
  · exact hc u v e
theorem fl_comp {fr to : Nat → Nat} {U : Nat → Prop} : ∀ (j : Nat) (c : Nat → Nat) (y : Nat), (∀ u v, c u = c v → (U u ↔ U v)) → (∀ e, e < j → y.testBit e = true → (U (fr e) ↔ U (to e))) → ∀ u v, fl fr to j c y u = fl fr to j c y v → (U u ↔ U v) := by
  intro j
  induction j with
  | zero => intro c y hc _ u v e; exact hc u v e
  | succ j ih =>
    intro c y hc hU u v e
    unfold fl at e
    split at e
    · rename_i q
      exact ih _ y (mg_comp hc (hU j (Nat.lt_succ_self j) q)) (fun e' he' => hU e' (Nat.lt_succ_of_lt he')) u v e
    · exact ih _ y hc (fun e' he' => hU e' (Nat.lt_succ_of_lt he')) u v e
theorem mg_keep {c : Nat → Nat} {a b u v : Nat} (h : c u = c v) : mg c a b u = mg c a b v := by unfold mg; rw [h]
theorem fl_keep {fr to : Nat → Nat} : ∀ (j : Nat) (c : Nat → Nat) (y u v : Nat), c u = c v → fl fr to j c y u = fl fr to j c y v := by
  intro j
  induction j with
  | zero => intro c y u v h; exact h
  | succ j ih =>
    intro c y u v h
    unfold fl
    split
    · exact ih _ y u v (mg_keep h)
    · exact ih _ y u v h
theorem fl_edge {fr to : Nat → Nat} : ∀ (j : Nat) (c : Nat → Nat) (y e : Nat), e < j → y.testBit e = true → fl fr to j c y (fr e) = fl fr to j c y (to e) := by
  intro j
  induction j with
  | zero => intro c y e h; exact absurd h (Nat.not_lt_zero e)
  | succ j ih =>
    intro c y e he hb
    unfold fl
    rcases Nat.lt_or_ge e j with q | q
    · split
      · exact ih _ y e q hb
      · exact ih _ y e q hb
    · have ej : e = j := by omega
      subst ej
      rw [if_pos hb]
      refine fl_keep _ _ _ _ _ ?_
      unfold mg
      by_cases z : c (fr e) = c (to e)
      · simp [z]
      · simp [z]
theorem ac_low {fr to : Nat → Nat} : ∀ (j : Nat) (c : Nat → Nat) (x y : Nat), (∀ i, i < j → x.testBit i = y.testBit i) → ac fr to j c x = ac fr to j c y := by
  intro j
  induction j with
  | zero => intro c x y _; rfl
  | succ j ih =>
    intro c x y h
    unfold ac
    rw [h j (Nat.lt_succ_self j), ih _ x y (fun i hi => h i (Nat.lt_succ_of_lt hi)), ih _ x y (fun i hi => h i (Nat.lt_succ_of_lt hi))]
theorem tl_mem {fr to : Nat → Nat} : ∀ (j : Nat) (c : Nat → Nat) (k s x : Nat), x ∈ tl fr to j c k s ↔ ∃ y, y < 2 ^ j ∧ x = s + y ∧ ac fr to j c y = true ∧ pck j y + 1 = k := by
  intro j
  induction j with
  | zero =>
    intro c k s x
    unfold tl
    constructor
    · intro h
      split at h
      · rename_i q
        exact ⟨0, by decide, by simpa using h, rfl, by simp [pck, fb_ct, q]⟩
      · cases h
    · rintro ⟨y, hy, rfl, -, hk⟩
      have : y = 0 := by simpa using hy
      subst this
      have hk1 : k = 1 := by simpa [pck, fb_ct] using hk.symm
      rw [if_pos hk1]
      simp
  | succ j ih =>
    intro c k s x
    unfold tl
    rw [List.mem_append, ih]
    constructor
    · rintro (⟨y, hy, rfl, h1, h2⟩ | h)
      · have hb : y.testBit j = false := Nat.testBit_lt_two_pow hy
        refine ⟨y, by rw [Nat.pow_succ]; omega, rfl, ?_, ?_⟩
        · unfold ac; rw [if_neg (by rw [hb]; decide)]; exact h1
        · rw [pck_succ, if_neg (by rw [hb]; decide)]; exact h2
      · split at h
        · cases h
        · rename_i q
          obtain ⟨y, hy, rfl, h1, h2⟩ := (ih _ _ _ _).mp h
          have hb : (2 ^ j + y).testBit j = true := by rw [Nat.testBit_two_pow_add_eq, Nat.testBit_lt_two_pow hy]; rfl
          have hlow : ∀ i, i < j → (2 ^ j + y).testBit i = y.testBit i := fun i hi => Nat.testBit_two_pow_add_gt hi y
          have hac : ac fr to j (mg c (fr j) (to j)) (2 ^ j + y) = ac fr to j (mg c (fr j) (to j)) y := ac_low j _ _ _ hlow
          have hpk : pck j (2 ^ j + y) = pck j y := fb_ct_cong hlow
          refine ⟨2 ^ j + y, by rw [Nat.pow_succ]; omega, by omega, ?_, ?_⟩
          · unfold ac; rw [if_pos hb, if_neg q, hac]; exact h1
          · rw [pck_succ, if_pos hb, hpk]; omega
    · rintro ⟨y, hy, rfl, h1, h2⟩
      unfold ac at h1
      rw [pck_succ] at h2
      by_cases hb : y.testBit j = true
      · right
        rw [if_pos hb] at h1 h2
        split at h1
        · cases h1
        · rename_i q
          rw [if_neg q]
          have hge : 2 ^ j ≤ y := Nat.ge_two_pow_of_testBit hb
          rw [ih]
          have hlow : ∀ i, i < j → (y - 2 ^ j).testBit i = y.testBit i := fun i hi => by
            have := Nat.testBit_two_pow_add_gt hi (y - 2 ^ j)
            rw [← this]; congr 1; omega
          refine ⟨y - 2 ^ j, by rw [Nat.pow_succ] at hy; omega, by omega, ?_, ?_⟩
          · rw [ac_low j _ _ _ hlow]; exact h1
          · rw [show pck j (y - 2 ^ j) = pck j y from fb_ct_cong hlow]; omega
      · left
        rw [if_neg hb] at h1 h2
        refine ⟨y, ?_, rfl, h1, h2⟩
        rcases Nat.lt_or_ge y (2 ^ j) with q | q
        · exact q
        · exfalso
          exact hb (by
            have e : y = 2 ^ j + (y - 2 ^ j) := by omega
            have hl : y - 2 ^ j < 2 ^ j := by rw [Nat.pow_succ] at hy; omega
            rw [e, Nat.testBit_two_pow_add_eq, Nat.testBit_lt_two_pow hl]; rfl)
theorem tl_range {fr to : Nat → Nat} {j : Nat} {c : Nat → Nat} {k s x : Nat} (h : x ∈ tl fr to j c k s) : s ≤ x ∧ x < s + 2 ^ j := by
  obtain ⟨y, hy, rfl, -⟩ := (tl_mem j c k s x).mp h
  omega
theorem tl_sorted {fr to : Nat → Nat} : ∀ (j : Nat) (c : Nat → Nat) (k s : Nat), (tl fr to j c k s).Pairwise (· < ·) := by
  intro j
  induction j with
  | zero =>
    intro c k s
    unfold tl
    split
    · exact List.pairwise_singleton _ _
    · exact List.Pairwise.nil
  | succ j ih =>
    intro c k s
    unfold tl
    rw [List.pairwise_append]
    refine ⟨ih _ _ _, ?_, ?_⟩
    · split
      · exact List.Pairwise.nil
      · exact ih _ _ _
    · intro a ha b hb
      have h1 := (tl_range ha).2
      split at hb
      · cases hb
      · have h2 := (tl_range hb).1
        omega
