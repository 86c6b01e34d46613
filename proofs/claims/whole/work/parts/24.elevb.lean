/-! nets by codes: how many lines are between two posts, four bits a pair; levels -/
def pix (i j : Nat) : Nat := j * (j - 1) / 2 + i
def dg (K i j : Nat) : Nat := K / 16 ^ pix i j % 16
def dgs (K i j : Nat) : Nat := if i < j then dg K i j else dg K j i
def cnt (L : List (Nat × Nat)) (u v : Nat) : Nat := cl L (fun z => z) u v
def isP (n : Nat) (p : Nat → Nat) : Prop := (∀ i, i < n → p i < n) ∧ ∀ i j, i < n → j < n → p i = p j → i = j
def okL (n : Nat) (L : List (Nat × Nat)) : Prop := ∀ e, e ∈ L → e.1 < n ∧ e.2 < n ∧ e.1 ≠ e.2
def hcod (n : Nat) (L : List (Nat × Nat)) (p : Nat → Nat) (K : Nat) : Prop := ∀ i j, i < j → j < n → cnt L (p i) (p j) = dg K i j
theorem pix_b : (List.range 8).all (fun j => (List.range j).all (fun i => (List.range 8).all (fun b => (List.range b).all (fun a => !(pix i j == pix a b) || (i == a && j == b))))) = true := by decide +kernel
theorem pix_inj : ∀ j, j < 8 → ∀ i, i < j → ∀ b, b < 8 → ∀ a, a < b → pix i j = pix a b → i = a ∧ j = b := by
  intro j hj i hi b hb a ha e
  have h1 := List.all_eq_true.mp pix_b j (List.mem_range.mpr hj)
  have h2 := List.all_eq_true.mp h1 i (List.mem_range.mpr hi)
  have h3 := List.all_eq_true.mp h2 b (List.mem_range.mpr hb)
  have h4 := List.all_eq_true.mp h3 a (List.mem_range.mpr ha)
  simpa [e] using h4
theorem dig_add (K p q : Nat) (h : K / 16 ^ p % 16 < 15) : (K + 16 ^ p) / 16 ^ q % 16 = K / 16 ^ q % 16 + if q = p then 1 else 0 := by
  have hp : 0 < 16 ^ p := Nat.pow_pos (by decide)
  rcases Nat.lt_trichotomy q p with z | z | z
  · rw [if_neg (by omega)]
    obtain ⟨d, rfl⟩ : ∃ d, p = q + (d + 1) := ⟨p - q - 1, by omega⟩
    have e : K + 16 ^ (q + (d + 1)) = K + 16 ^ q * (16 * 16 ^ d) := by rw [Nat.pow_add, Nat.pow_succ, Nat.mul_comm (16 ^ d) 16]
    rw [e, Nat.add_mul_div_left _ _ (Nat.pow_pos (by decide)), Nat.add_mul_mod_self_left, Nat.add_zero]
  · subst z
    rw [if_pos rfl, show K + 16 ^ q = K + 16 ^ q * 1 by rw [Nat.mul_one], Nat.add_mul_div_left _ _ hp]
    omega
  · rw [if_neg (by omega)]
    have e : (K + 16 ^ p) / 16 ^ q = K / 16 ^ q := by
      obtain ⟨d, rfl⟩ : ∃ d, q = p + 1 + d := ⟨q - p - 1, by omega⟩
      have e1 : ∀ X : Nat, X / 16 ^ (p + 1 + d) = X / 16 ^ p / 16 / 16 ^ d := fun X => by rw [Nat.pow_add, Nat.pow_succ, ← Nat.div_div_eq_div_mul, ← Nat.div_div_eq_div_mul]
      rw [e1, e1, show K + 16 ^ p = K + 16 ^ p * 1 by rw [Nat.mul_one], Nat.add_mul_div_left _ _ hp]
      congr 1
      omega
    rw [e, Nat.add_zero]
theorem countP_erase {α : Type} (f : α → Bool) : ∀ (L : List α) (i : Nat) (h : i < L.length), L.countP f = (L.eraseIdx i).countP f + if f L[i] = true then 1 else 0 := by
  intro L
  induction L with
  | nil => intro i h; exact absurd h (Nat.not_lt_zero i)
  | cons e L ih =>
    intro i h
    cases i with
    | zero => simp [List.countP_cons]
    | succ i =>
      simp only [List.eraseIdx_cons_succ, List.countP_cons, List.getElem_cons_succ]
      have := ih i (by simpa using h)
      omega
theorem cnt_le (L : List (Nat × Nat)) (u v : Nat) : cnt L u v ≤ L.length := List.countP_le_length
theorem isP_onto {n : Nat} {p : Nat → Nat} (h : isP n p) {y : Nat} (hy : y < n) : ∃ i, i < n ∧ p i = y := fb_onto h.1 (fun i j hij hj e => absurd (h.2 i j (by omega) hj e) (by omega)) hy
/-- a line more: the code grows at its pair -/
theorem hcod_add {n : Nat} (hn : n ≤ 8) {L L' : List (Nat × Nat)} {p : Nat → Nat} {K : Nat} {e : Nat × Nat} (hp : isP n p) (hK : hcod n L' p K) (hl : L'.length < 15) (he : e.1 < n ∧ e.2 < n ∧ e.1 ≠ e.2) (hc : ∀ u v, cnt L u v = cnt L' u v + if decide ((e.1 = u ∧ e.2 = v) ∨ (e.1 = v ∧ e.2 = u)) = true then 1 else 0) : ∃ a b, a < b ∧ b < n ∧ hcod n L p (K + 16 ^ pix a b) ∧ ((e.1 = p a ∧ e.2 = p b) ∨ (e.1 = p b ∧ e.2 = p a)) := by
  obtain ⟨a0, ha0, ea⟩ := isP_onto hp he.1
  obtain ⟨b0, hb0, eb⟩ := isP_onto hp he.2.1
  have hne : a0 ≠ b0 := fun z => he.2.2 (by rw [← ea, ← eb, z])
  have main : ∀ a b, a < b → b < n → ((e.1 = p a ∧ e.2 = p b) ∨ (e.1 = p b ∧ e.2 = p a)) → hcod n L p (K + 16 ^ pix a b) := by
    intro a b hab hb hen i j hij hj
    rw [hc, hK i j hij hj]
    have hd : K / 16 ^ pix a b % 16 < 15 := by
      have := hK a b hab hb
      unfold dg at this
      rw [← this]
      exact Nat.lt_of_le_of_lt (cnt_le _ _ _) hl
    unfold dg
    rw [dig_add K _ _ hd]
    congr 1
    have hx : ((e.1 = p i ∧ e.2 = p j) ∨ (e.1 = p j ∧ e.2 = p i)) ↔ pix i j = pix a b := by
      constructor
      · intro h
        have : i = a ∧ j = b := by
          rcases hen with ⟨q1, q2⟩ | ⟨q1, q2⟩ <;> rcases h with ⟨r1, r2⟩ | ⟨r1, r2⟩
          · exact ⟨hp.2 i a (by omega) (by omega) (r1.symm.trans q1), hp.2 j b hj hb (r2.symm.trans q2)⟩
          · have := hp.2 j a hj (by omega) (r1.symm.trans q1); have := hp.2 i b (by omega) hb (r2.symm.trans q2); omega
          · have := hp.2 i b (by omega) hb (r1.symm.trans q1); have := hp.2 j a hj (by omega) (r2.symm.trans q2); omega
          · exact ⟨hp.2 i a (by omega) (by omega) (r2.symm.trans q2), hp.2 j b hj hb (r1.symm.trans q1)⟩
        rw [this.1, this.2]
      · intro h
        obtain ⟨rfl, rfl⟩ := pix_inj j (by omega) i hij b (by omega) a hab h
        exact hen
    by_cases z : pix i j = pix a b
    · rw [if_pos z, if_pos (decide_eq_true (hx.mpr z))]
    · rw [if_neg z, if_neg (by simpa using fun y => z (hx.mp y))]
  rcases Nat.lt_or_ge a0 b0 with q | q
  · exact ⟨a0, b0, q, hb0, main a0 b0 q hb0 (Or.inl ⟨ea.symm, eb.symm⟩), Or.inl ⟨ea.symm, eb.symm⟩⟩
  · exact ⟨b0, a0, by omega, ha0, main b0 a0 (by omega) ha0 (Or.inr ⟨ea.symm, eb.symm⟩), Or.inr ⟨ea.symm, eb.symm⟩⟩
/-- few trees by the rounded weights -/
theorem code_bound {N : Nat} {L : List (Nat × Nat)} {p : Nat → Nat} {K : Nat} (hp : isP (N + 1) p) (hL : okL (N + 1) L) (hK : hcod (N + 1) L p K) : tc L (fun v => v) (N + 1) * 1048576 ^ N ≤ eb N (rowsOf N (fun i j => 1048576 * dg K i j + 1)) := by
  have hinv : ∀ v, ∃ i, v < N + 1 → (i < N + 1 ∧ p i = v) := fun v => by
    by_cases h : v < N + 1
    · obtain ⟨i, hi⟩ := isP_onto hp h; exact ⟨i, fun _ => hi⟩
    · exact ⟨0, fun z => absurd z h⟩
  obtain ⟨inv, hinv⟩ := Classical.axiomOfChoice hinv
  let c : Nat → Nat := fun v => if v < N + 1 then inv v else v
  have hc : ∀ v, c v = if v < N + 1 then inv v else v := fun _ => rfl
  have hker : ∀ x y : Nat, (fun v : Nat => v) x = (fun v : Nat => v) y ↔ c x = c y := by
    intro x y
    rw [hc, hc]
    constructor
    · intro e; rw [show x = y from e]
    · intro e
      by_cases hx : x < N + 1 <;> by_cases hy : y < N + 1
      · rw [if_pos hx, if_pos hy] at e
        show x = y
        rw [← (hinv x hx).2, ← (hinv y hy).2, e]
      · rw [if_pos hx, if_neg hy] at e
        exact absurd (hinv x hx).1 (by omega)
      · rw [if_neg hx, if_pos hy] at e
        exact absurd (hinv y hy).1 (by omega)
      · rw [if_neg hx, if_neg hy] at e; exact e
  have hcl : ∀ i j, i < j → j ≤ N → cl L c i j = dg K i j := by
    intro i j hij hj
    rw [← hK i j hij (by omega)]
    unfold cnt cl
    refine List.countP_congr (fun e he => ?_)
    have h1 := hL e he
    have hx : ∀ v i, v < N + 1 → i < N + 1 → (c v = i ↔ v = p i) := by
      intro v i hv hi
      rw [hc, if_pos hv]
      constructor
      · intro z; rw [← z, (hinv v hv).2]
      · intro z; exact hp.2 _ _ (hinv v hv).1 hi ((hinv v hv).2.trans z)
    simp only [decide_eq_true_eq]
    rw [hx e.1 i h1.1 (by omega), hx e.2 j h1.2.1 (by omega), hx e.1 j h1.1 (by omega), hx e.2 i h1.2.1 (by omega)]
  have hS0 : (0 : Rat) < ((1048576 : Nat) : Rat) := by
    have : ((0 : Nat) : Rat) < ((1048576 : Nat) : Rat) := Rat.natCast_lt_natCast.mpr (by decide)
    exact this
  have h1 := tc_le L c N (fun i j => ((1048576 * dg K i j + 1 : Nat) : Rat) / ((1048576 : Nat) : Rat)) (fun e he => by
    have h1 := hL e he
    rw [hc, hc, if_pos h1.1, if_pos h1.2.1]
    have := (hinv e.1 h1.1).1; have := (hinv e.2 h1.2.1).1
    omega) (fun i j hij hj => by
    rw [hcl i j hij hj, Rat.natCast_add, Rat.natCast_mul]
    generalize (dg K i j : Rat) = x
    have h2 : ((1 : Nat) : Rat) = 1 := rfl
    rw [h2]
    generalize ((1048576 : Nat) : Rat) = s at *
    have h3 : (s * x + 1) / s = x + 1 / s := by grind
    have h4 : 0 < 1 / s := rdiv_pos (by grind) hS0
    rw [h3]
    grind)
  have h2 := eb_ge 1048576 (by decide) N (fun i j => 1048576 * dg K i j + 1) (fun i j _ _ => Nat.succ_pos _)
  rw [tc_ker L _ c _ hker]
  have h3 : ((tc L c (N + 1) : Nat) : Rat) * ((1048576 : Nat) : Rat) ^ N ≤ ((eb N (rowsOf N (fun i j => 1048576 * dg K i j + 1)) : Nat) : Rat) := Rat.le_trans (Rat.mul_le_mul_of_nonneg_right h1 (Rat.le_of_lt (Rat.pow_pos hS0))) h2
  have h4 : ((tc L c (N + 1) * 1048576 ^ N : Nat) : Rat) ≤ ((eb N (rowsOf N (fun i j => 1048576 * dg K i j + 1)) : Nat) : Rat) := by
    rw [Rat.natCast_mul, Rat.natCast_pow]
    exact h3
  exact Rat.natCast_le_natCast.mp h4
def prs (n : Nat) : List (Nat × Nat) := (List.range n).flatMap (fun j => (List.range j).map (fun i => (i, j)))
theorem prs_mem {n i j : Nat} (h : i < j) (hj : j < n) : (i, j) ∈ prs n := List.mem_flatMap.mpr ⟨j, List.mem_range.mpr hj, List.mem_map.mpr ⟨i, List.mem_range.mpr h, rfl⟩⟩
theorem zip_mem {α β : Type} {l : List α} {r : List β} (h : r.length = l.length) {x : α} (hx : x ∈ l) : ∃ y, (x, y) ∈ l.zip r := by
  obtain ⟨t, ht, e⟩ := List.mem_iff_getElem.mp hx
  refine ⟨r[t]'(by omega), ?_⟩
  rw [List.mem_iff_getElem]
  exact ⟨t, by rw [List.length_zip]; omega, by rw [List.getElem_zip, e]⟩
def prm (x i : Nat) : Nat := x / 8 ^ i % 8
def isPb (n x : Nat) : Bool := (List.range n).all (fun i => decide (prm x i < n) && (List.range i).all (fun j => decide (prm x j ≠ prm x i)))
theorem isPb_ok {n x : Nat} (h : isPb n x = true) : isP n (prm x) := by
  have h1 : ∀ i, i < n → prm x i < n ∧ ∀ j, j < i → prm x j ≠ prm x i := by
    intro i hi
    have h2 := List.all_eq_true.mp h i (List.mem_range.mpr hi)
    rw [Bool.and_eq_true] at h2
    exact ⟨of_decide_eq_true h2.1, fun j hj => of_decide_eq_true (List.all_eq_true.mp h2.2 j (List.mem_range.mpr hj))⟩
  refine ⟨fun i hi => (h1 i hi).1, fun i j hi hj e => ?_⟩
  rcases Nat.lt_trichotomy i j with q | q | q
  · exact absurd e ((h1 j hj).2 i q)
  · exact q
  · exact absurd e.symm ((h1 i hi).2 j q)
def isoB (n K x K2 : Nat) : Bool := (prs n).all (fun q => decide (dgs K (prm x q.1) (prm x q.2) = dg K2 q.1 q.2))
def keepB (n K : Nat) (T : List Nat) (y : Nat) : Bool := decide (y / 16777216 < T.length) && isPb n (y % 16777216) && isoB n K (y % 16777216) (T.getD (y / 16777216) 0)
def excB (n th K : Nat) : Bool := decide (eb (n - 1) (rowsOf (n - 1) (fun i j => 1048576 * dg K i j + 1)) < th * 1048576 ^ (n - 1))
def chk (n th : Nat) (T : List Nat) (K : Nat) (cs : List Nat) : Bool := decide (cs.length = (prs n).length) && ((prs n).zip cs).all (fun z => if z.2 = 0 then excB n th (K + 16 ^ pix z.1.1 z.1.2) else keepB n (K + 16 ^ pix z.1.1 z.1.2) T (z.2 - 1))
theorem dgs_cnt {n : Nat} {L : List (Nat × Nat)} {p : Nat → Nat} {K : Nat} (hK : hcod n L p K) {i j : Nat} (hi : i < n) (hj : j < n) (h : i ≠ j) : cnt L (p i) (p j) = dgs K i j := by
  unfold dgs
  split
  · exact hK i j (by assumption) hj
  · rw [← hK j i (by omega) hi]
    unfold cnt cl
    congr 1; funext e'; congr 1; exact propext ⟨fun z => z.symm, fun z => z.symm⟩
theorem keep_ok {n K : Nat} {T : List Nat} {y : Nat} (h : keepB n K T y = true) {L : List (Nat × Nat)} {p : Nat → Nat} (hp : isP n p) (hK : hcod n L p K) : ∃ K2, K2 ∈ T ∧ ∃ q, isP n q ∧ hcod n L q K2 := by
  unfold keepB at h
  rw [Bool.and_eq_true, Bool.and_eq_true] at h
  obtain ⟨⟨h1, h2⟩, h3⟩ := h
  have h1 := of_decide_eq_true h1
  have h2 := isPb_ok h2
  refine ⟨T.getD (y / 16777216) 0, ?_, fun i => p (prm (y % 16777216) i), ⟨fun i hi => hp.1 _ (h2.1 i hi), fun i j hi hj e => h2.2 i j hi hj (hp.2 _ _ (h2.1 i hi) (h2.1 j hj) e)⟩, ?_⟩
  · rw [List.getD_eq_getElem?_getD, List.getElem?_eq_getElem h1]
    exact List.getElem_mem h1
  · intro i j hij hj
    have h4 := of_decide_eq_true (List.all_eq_true.mp h3 (i, j) (prs_mem hij hj))
    rw [← h4]
    exact dgs_cnt hK (h2.1 i (by omega)) (h2.1 j hj) (fun e => absurd (h2.2 i j (by omega) hj e) (by omega))
def Lev (n m th : Nat) (T : List Nat) : Prop := ∀ L : List (Nat × Nat), L.length = m → okL n L → th ≤ tc L (fun v => v) n → ∃ K, K ∈ T ∧ ∃ p, isP n p ∧ hcod n L p K
theorem lev_step {n m th th' : Nat} {T T' : List Nat} (hn : 0 < n) (hn8 : n ≤ 8) (hm : m + 1 ≤ 14) (hlev : Lev n m th T) (hth : (m + 1) * (th - 1) + (n - 1) * th' < (m + 1) * th') (hchk : ∀ K, K ∈ T → ∃ cs, chk n th' T' K cs = true) : Lev n (m + 1) th' T' := by
  intro L hl hok ht
  obtain ⟨x, hx, hB⟩ := tc_some (B := th - 1) ht (by rw [hl]; exact hth)
  have hl' : (L.eraseIdx x).length = m := by rw [List.length_eraseIdx, if_pos hx, hl]; omega
  obtain ⟨K, hKT, p, hp, hK⟩ := hlev (L.eraseIdx x) hl' (fun e he => hok e (List.mem_of_mem_eraseIdx he)) (by omega)
  obtain ⟨a, b, hab, hb, hK', -⟩ := hcod_add (L := L) hn8 hp hK (by omega) (hok L[x] (List.getElem_mem hx)) (fun u v => countP_erase _ L x hx)
  obtain ⟨cs, hcs⟩ := hchk K hKT
  unfold chk at hcs
  rw [Bool.and_eq_true] at hcs
  obtain ⟨y, hy⟩ := zip_mem (of_decide_eq_true hcs.1) (prs_mem hab hb)
  have h1 := List.all_eq_true.mp hcs.2 _ hy
  dsimp only at h1
  split at h1
  · exfalso
    have h2 := of_decide_eq_true h1
    obtain ⟨N, rfl⟩ : ∃ N, n = N + 1 := ⟨n - 1, by omega⟩
    have h3 := code_bound hp hok hK'
    rw [show N + 1 - 1 = N by omega] at h2
    have h4 := Nat.lt_of_le_of_lt h3 h2
    have h5 : tc L (fun v => v) (N + 1) < th' := Nat.lt_of_mul_lt_mul_right h4
    omega
  · exact keep_ok h1 hp hK'
theorem lev_none {n m th : Nat} (h : Lev n m th []) {L : List (Nat × Nat)} (hl : L.length = m) (hok : okL n L) : tc L (fun v => v) n < th := by
  refine Nat.not_le.mp fun z => ?_
  obtain ⟨K, hK, -⟩ := h L hl hok z
  cases hK
