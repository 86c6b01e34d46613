/-! the reference's ways from a good tree: its row of distances -/
def GX (G : List Nat) (m c : Nat) : Prop := G.Pairwise (· < ·) ∧ (∀ x, x ∈ G → x < 2 ^ m ∧ pck 14 x = c) ∧ m ≤ 14 ∧ G.length ≤ 1280
def tg (G : List Nat) (i a b : Nat) : Option Nat := if (G.getD i 0).testBit a = true ∧ (G.getD i 0).testBit b = false then (if (G.getD i 0 ^^^ 2 ^ a) ||| 2 ^ b ∈ G then some (G.countP (fun y => decide (y < (G.getD i 0 ^^^ 2 ^ a) ||| 2 ^ b))) else none) else none
def ofO (o : Option Nat) : Int32 := match o with
  | none => -1
  | some j => nI j
theorem adj_sym (G : List Nat) (i j : Nat) : adjG G i j = adjG G j i := by
  unfold adjG
  rw [Nat.xor_comm]
theorem tg_adj {G : List Nat} {m c : Nat} (h : GX G m c) {i a b j : Nat} (hi : i < G.length) (ha : a < m) (hb : b < m) (e : tg G i a b = some j) : j < G.length ∧ adjG G i j = true := by
  obtain ⟨h1, h2, h3, h4⟩ := h
  unfold tg at e
  by_cases z : (G.getD i 0).testBit a = true ∧ (G.getD i 0).testBit b = false
  · rw [if_pos z] at e
    by_cases y : (G.getD i 0 ^^^ 2 ^ a) ||| 2 ^ b ∈ G
    · rw [if_pos y] at e
      obtain ⟨c1, c2⟩ := cp_at h1 y
      have ej := Option.some.inj e
      rw [ej] at c1 c2
      refine ⟨c1, ?_⟩
      unfold adjG
      rw [c2]
      exact decide_eq_true (swap_two (by omega) (by omega) z.1 z.2)
    · rw [if_neg y] at e; cases e
  · rw [if_neg z] at e; cases e
theorem adj_tg {G : List Nat} {m c : Nat} (h : GX G m c) {i j : Nat} (hi : i < G.length) (hj : j < G.length) (e : adjG G i j = true) : ∃ a b, a < m ∧ b < m ∧ tg G i a b = some j := by
  obtain ⟨h1, h2, h3, h4⟩ := h
  have gi := h2 _ (getD_mem hi)
  have gj := h2 _ (getD_mem hj)
  have p14 : 2 ^ m ≤ 2 ^ 14 := Nat.pow_le_pow_right (by decide) h3
  obtain ⟨a, b, ha, hb, ba, bb, ej⟩ := swap_of (show G.getD i 0 < 2 ^ 14 by omega) (show G.getD j 0 < 2 ^ 14 by omega) (by rw [gi.2, gj.2]) (of_decide_eq_true e)
  have am : a < m := by
    apply Classical.byContradiction
    intro z
    have : G.getD i 0 < 2 ^ a := Nat.lt_of_lt_of_le gi.1 (Nat.pow_le_pow_right (by decide) (by omega))
    rw [Nat.testBit_lt_two_pow this] at ba
    cases ba
  have bm : b < m := by
    apply Classical.byContradiction
    intro z
    have : G.getD j 0 < 2 ^ b := Nat.lt_of_lt_of_le gj.1 (Nat.pow_le_pow_right (by decide) (by omega))
    have hf := Nat.testBit_lt_two_pow this
    rw [ej, Nat.testBit_or, Nat.testBit_two_pow_self, Bool.or_true] at hf
    cases hf
  refine ⟨a, b, am, bm, ?_⟩
  have hz : (G.getD i 0 ^^^ 2 ^ a) ||| 2 ^ b ∈ G := by rw [← ej]; exact getD_mem hj
  unfold tg
  rw [if_pos ⟨ba, bb⟩, if_pos hz]
  obtain ⟨c1, c2⟩ := cp_at h1 hz
  rw [srt_inj h1 c1 hj (by rw [c2, ej])]
def MG (τ : St) (G : List Nat) (m : Nat) : Prop := τ.1 10 = nI G.length ∧ τ.1 1 = nI m ∧ (∀ i, i < G.length → τ.2.1 11 i = nI (G.getD i 0)) ∧ (∀ x, x < 2 ^ m → τ.2.1 14 x = if x ∈ G then nI (G.countP (fun y => decide (y < x))) else -1)
theorem swap_tg {G : List Nat} {m c : Nat} (h : GX G m c) {τ : St} (hm : MG τ G m) {i a b : Nat} (hi : i < G.length) (ha : a < m) (hb : b < m) (N : Nat) : M_swapped N (nI (G.getD i 0)) (nI a) (nI b) τ = some (ofO (tg G i a b)) := by
  obtain ⟨h1, h2, h3, h4⟩ := h
  have gi := h2 _ (getD_mem hi)
  have p14 : 2 ^ m ≤ 2 ^ 14 := Nat.pow_le_pow_right (by decide) h3
  rw [M_swapped_ok (show G.getD i 0 < 2 ^ 14 by omega) (by omega) (by omega)]
  unfold tg
  by_cases z : (G.getD i 0).testBit a = true ∧ (G.getD i 0).testBit b = false
  · rw [if_pos z, if_pos z]
    have pa : 2 ^ a < 2 ^ m := Nat.pow_lt_pow_right (by decide) ha
    have pb : 2 ^ b < 2 ^ m := Nat.pow_lt_pow_right (by decide) hb
    rw [hm.2.2.2 _ (Nat.or_lt_two_pow (Nat.xor_lt_two_pow gi.1 pa) pb)]
    by_cases y : (G.getD i 0 ^^^ 2 ^ a) ||| 2 ^ b ∈ G
    · rw [if_pos y, if_pos y]; rfl
    · rw [if_neg y, if_neg y]; rfl
  · rw [if_neg z, if_neg z]; rfl
/-- the queue: q its trees, e their distances, L how many, h how many are done -/
def BQu (K : Nat) (adj : Nat → Nat → Bool) (g : Nat) (q e : Nat → Nat) (L h : Nat) : Prop := (∀ s t, s < L → t < L → q s = q t → s = t) ∧ (∀ t, t < L → q t < K) ∧ (0 < L ∧ q 0 = g ∧ e 0 = 0) ∧ (∀ t, t < L → RI K adj g (e t) (q t) = true ∧ e t ≤ t) ∧ (∀ s t, s ≤ t → t < L → e s ≤ e t) ∧ (h < L → ∀ t, t < L → e t ≤ e h + 1) ∧ (∀ s, s < h → s < L → ∀ i, i < K → adj (q s) i = true → ∃ t, t < L ∧ q t = i ∧ e t ≤ e s + 1)
def ap (q : Nat → Nat) (L j : Nat) : Nat → Nat := fun t => if t = L then j else q t
theorem ap_o {q : Nat → Nat} {L j t : Nat} (h : t < L) : ap q L j t = q t := if_neg (by omega)
theorem ap_n {q : Nat → Nat} {L j : Nat} : ap q L j L = j := if_pos rfl
theorem BQu_add {K : Nat} {adj : Nat → Nat → Bool} {g : Nat} {q e : Nat → Nat} {L h j : Nat} (hb : BQu K adj g q e L h) (hh : h < L) (hj : j < K) (hn : ∀ t, t < L → q t ≠ j) (ha : adj (q h) j = true) : BQu K adj g (ap q L j) (ap e L (e h + 1)) (L + 1) h := by
  obtain ⟨b1, b2, ⟨b3, b4, b5⟩, b6, b7, b8, b9⟩ := hb
  have lt : ∀ {t}, t < L + 1 → t < L ∨ t = L := fun h => by omega
  refine ⟨fun s t hs ht e' => ?_, fun t ht => ?_, ⟨by omega, by rw [ap_o b3]; exact b4, by rw [ap_o b3]; exact b5⟩, fun t ht => ?_, fun s t hst ht => ?_, fun _ t ht => ?_, fun s hs hs' i hi hai => ?_⟩
  · rcases lt hs with z | rfl <;> rcases lt ht with y | rfl
    · rw [ap_o z, ap_o y] at e'; exact b1 s t z y e'
    · rw [ap_o z, ap_n] at e'; exact absurd e' (hn s z)
    · rw [ap_o y, ap_n] at e'; exact absurd e'.symm (hn t y)
    · rfl
  · rcases lt ht with z | rfl
    · rw [ap_o z]; exact b2 t z
    · rw [ap_n]; exact hj
  · rcases lt ht with z | rfl
    · rw [ap_o z, ap_o z]; exact b6 t z
    · rw [ap_n, ap_n]
      have := (b6 h hh).2
      exact ⟨RI_next.mpr (Or.inr ⟨q h, b2 h hh, (b6 h hh).1, ha⟩), by omega⟩
  · rcases lt ht with z | rfl
    · rw [ap_o z, ap_o (by omega)]; exact b7 s t hst z
    · rw [ap_n]
      by_cases y : s = t
      · rw [y, ap_n]; exact Nat.le_refl _
      · rw [ap_o (by omega)]; exact b8 hh s (by omega)
  · rw [ap_o (t := h) hh]
    rcases lt ht with z | rfl
    · rw [ap_o z]; exact b8 hh t z
    · rw [ap_n]; exact Nat.le_refl _
  · have sL : s < L := by omega
    rw [ap_o sL] at hai
    obtain ⟨t, h1, h2, h3⟩ := b9 s hs sL i hi hai
    exact ⟨t, by omega, by rw [ap_o h1]; exact h2, by rw [ap_o h1, ap_o sL]; exact h3⟩
theorem BQu_step {K : Nat} {adj : Nat → Nat → Bool} {g : Nat} {q e : Nat → Nat} {L h : Nat} (hb : BQu K adj g q e L h) (hh : h < L) (hs : ∀ i, i < K → adj (q h) i = true → ∃ t, t < L ∧ q t = i) : BQu K adj g q e L (h + 1) := by
  obtain ⟨b1, b2, b3, b6, b7, b8, b9⟩ := hb
  refine ⟨b1, b2, b3, b6, b7, fun h1 t ht => ?_, fun s hs1 hs2 i hi hai => ?_⟩
  · have := b8 hh t ht
    have := b7 h (h + 1) (by omega) h1
    omega
  · by_cases z : s = h
    · subst z
      obtain ⟨t, t1, t2⟩ := hs i hi hai
      exact ⟨t, t1, t2, b8 hh t t1⟩
    · exact b9 s (by omega) hs2 i hi hai
theorem BQu_len {K : Nat} {adj : Nat → Nat → Bool} {g : Nat} {q e : Nat → Nat} {L h : Nat} (hb : BQu K adj g q e L h) : L ≤ K := by
  apply Classical.byContradiction
  intro z
  obtain ⟨i, hi, e⟩ := pig K q (fun i hi => hb.2.1 i (by omega)) (fun i j hi hj e => hb.1 i j (by omega) (by omega) e) (q K) (hb.2.1 K (by omega))
  have := hb.1 i K (by omega) (by omega) e
  omega
theorem BQu_all {K : Nat} {adj : Nat → Nat → Bool} {g : Nat} {q e : Nat → Nat} {L : Nat} (hb : BQu K adj g q e L L) : ∀ l i, i < K → RI K adj g l i = true → ∃ t, t < L ∧ q t = i ∧ e t ≤ l := by
  obtain ⟨b1, b2, ⟨b3, b4, b5⟩, b6, b7, b8, b9⟩ := hb
  intro l
  induction l with
  | zero =>
    intro i hi h
    have : i = g := of_decide_eq_true h
    exact ⟨0, b3, by rw [b4, this], by omega⟩
  | succ l ih =>
    intro i hi h
    rcases RI_next.mp h with z | ⟨j, hj, z1, z2⟩
    · obtain ⟨t, t1, t2, t3⟩ := ih i hi z
      exact ⟨t, t1, t2, by omega⟩
    · obtain ⟨t, t1, t2, t3⟩ := ih j hj z1
      rw [← t2] at z2
      obtain ⟨s, s1, s2, s3⟩ := b9 t t1 t1 i hi z2
      exact ⟨s, s1, s2, by omega⟩
/-- a row of distances -/
def FD (K : Nat) (adj : Nat → Nat → Bool) (g : Nat) (f : Nat → Int32) : Prop := ∀ i, i < K → (f i = -1 ∧ ∀ l, RI K adj g l i = false) ∨ ∃ d, f i = nI d ∧ d < 1280 ∧ RI K adj g d i = true ∧ ∀ k, k < d → RI K adj g k i = false
def BA (τ0 τ : St) (K : Nat) (q e : Nat → Nat) (L : Nat) : Prop := τ.1 = τ0.1 ∧ (∀ k, k ≠ 17 → k ≠ 18 → τ.2.1 k = τ0.2.1 k) ∧ τ.2.2 = τ0.2.2 ∧ (∀ t, t < L → τ.2.1 17 (q t) = nI (e t) ∧ τ.2.1 18 t = nI (q t)) ∧ (∀ i, i < K → (∀ t, t < L → q t ≠ i) → τ.2.1 17 i = -1)
theorem BA.mg {τ0 τ : St} {G : List Nat} {m L : Nat} {q e : Nat → Nat} (h : BA τ0 τ G.length q e L) (hm : MG τ0 G m) : MG τ G m := by
  obtain ⟨a1, a2, a3, a4⟩ := hm
  exact ⟨by rw [h.1]; exact a1, by rw [h.1]; exact a2, by rw [h.2.1 11 (by decide) (by decide)]; exact a3, by rw [h.2.1 14 (by decide) (by decide)]; exact a4⟩
theorem BA_add {τ0 τ : St} {K : Nat} {q e : Nat → Nat} {L j v : Nat} (hA : BA τ0 τ K q e L) (hn : ∀ t, t < L → q t ≠ j) : BA τ0 (sa (sa τ 17 j (nI v)) 18 L (nI j)) K (ap q L j) (ap e L v) (L + 1) := by
  obtain ⟨a1, a2, a3, a4, a5⟩ := hA
  have e17 : (sa (sa τ 17 j (nI v)) 18 L (nI j)).2.1 17 = upd (τ.2.1 17) j (nI v) := by rw [sa_ne _ _ _ (by decide), sa_same]
  have e18 : (sa (sa τ 17 j (nI v)) 18 L (nI j)).2.1 18 = upd (τ.2.1 18) L (nI j) := by rw [sa_same, sa_ne _ _ _ (by decide)]
  refine ⟨a1, fun k h17 h18 => ?_, a3, fun t ht => ?_, fun i hi hni => ?_⟩
  · rw [sa_ne _ _ _ h18, sa_ne _ _ _ h17]; exact a2 k h17 h18
  · rw [e17, e18]
    by_cases z : t = L
    · subst z
      rw [ap_n, ap_n, upd_s, upd_s]
      exact ⟨rfl, rfl⟩
    · have tL : t < L := by omega
      rw [ap_o tL, ap_o tL, upd_n _ _ (hn t tL), upd_n _ _ z]
      exact a4 t tL
  · rw [e17]
    have hij : i ≠ j := fun z => hni L (by omega) (by rw [ap_n, z])
    rw [upd_n _ _ hij]
    exact a5 i hi (fun t ht => by have := hni t (by omega); rw [ap_o ht] at this; exact this)
def SN (G : List Nat) (m p : Nat) (q : Nat → Nat) (L a b : Nat) : Prop := ∀ a' b' j, b' < m → (a' < a ∨ (a' = a ∧ b' < b)) → tg G p a' b' = some j → ∃ t, t < L ∧ q t = j
section MRC
variable {G : List Nat} {m c g : Nat} {τ0 : St}
theorem M_meas69_ok (h : GX G m c) (hm : MG τ0 G m) (N : Nat) (k : Int32 → Int32 → Int32 → Int32 → St → Option St) {p a hh : Nat} (ha : a < m) : ∀ (d b : Nat), b + d = m → ∀ fuel, d < fuel → ∀ (q e : Nat → Nat) (L : Nat) (τ : St), BA τ0 τ G.length q e L → BQu G.length (adjG G) g q e L hh → hh < L → q hh = p → SN G m p q L a b → ∃ q' e' L' τ', M_measures_69 N k fuel (nI L) (nI hh) (nI p) (nI a) (nI b) τ = k (nI L') (nI hh) (nI p) (nI (a + 1)) τ' ∧ BA τ0 τ' G.length q' e' L' ∧ BQu G.length (adjG G) g q' e' L' hh ∧ hh < L' ∧ q' hh = p ∧ SN G m p q' L' (a + 1) 0 := by
  have hK := h.2.2.2
  have hm14 := h.2.2.1
  intro d
  induction d with
  | zero =>
    intro b hb fuel hf q e L τ hA hB hL hp hS
    obtain ⟨fuel, rfl⟩ : ∃ z, fuel = z + 1 := ⟨fuel - 1, by omega⟩
    rw [M_measures_69_s, (hA.mg hm).2.1, if_pos (nI_le (by omega) (by omega)), nI_1]
    exact ⟨q, e, L, τ, rfl, hA, hB, hL, hp, fun a' b' j h1 h2 h3 => hS a' b' j h1 (by omega) h3⟩
  | succ d ih =>
    intro b hb fuel hf q e L τ hA hB hL hp hS
    obtain ⟨fuel, rfl⟩ : ∃ z, fuel = z + 1 := ⟨fuel - 1, by omega⟩
    have hpK : p < G.length := hp ▸ hB.2.1 hh hL
    have hM := hA.mg hm
    have hLK := BQu_len hB
    rw [M_measures_69_s, hM.2.1, if_neg (nI_ge (by omega) (by omega)), grd_t (inb_nI (by omega) (by decide)), nI_clamp (by omega), hM.2.2.1 p hpK, bnd_t (swap_tg h hM hpK ha (show b < m by omega) N)]
    have sn : ∀ {q' : Nat → Nat} {L' : Nat}, (∀ t, t < L → ∃ s, s < L' ∧ q' s = q t) → (∀ j, tg G p a b = some j → ∃ t, t < L' ∧ q' t = j) → SN G m p q' L' a (b + 1) := fun {q' L'} hq hj a' b' j h1 h2 h3 => by
      by_cases z : a' = a ∧ b' = b
      · rw [z.1, z.2] at h3; exact hj j h3
      · obtain ⟨t, t1, t2⟩ := hS a' b' j h1 (by omega) h3
        obtain ⟨s, s1, s2⟩ := hq t t1
        exact ⟨s, s1, by rw [s2, t2]⟩
    cases et : tg G p a b with
    | none =>
      rw [show ofO none = -1 from rfl, if_pos rfl, nI_1]
      exact ih (b + 1) (by omega) fuel (by omega) q e L τ hA hB hL hp (sn (fun t ht => ⟨t, ht, rfl⟩) (fun j hj => by rw [et] at hj; cases hj))
    | some j =>
      obtain ⟨jK, jadj⟩ := tg_adj h hpK ha (show b < m by omega) et
      rw [show ofO (some j) = nI j from rfl, if_neg (nI_m1 (by omega)), grd_t (inb_nI (by omega) (by decide)), nI_clamp (show j < 2 ^ 31 by omega)]
      by_cases hin : ∃ t, t < L ∧ q t = j
      · obtain ⟨t, t1, t2⟩ := hin
        have et' := (hB.2.2.2.1 t t1).2
        rw [← t2, (hA.2.2.2.1 t t1).1, if_neg (nI_m1 (by omega)), nI_1]
        exact ih (b + 1) (by omega) fuel (by omega) q e L τ hA hB hL hp (sn (fun t ht => ⟨t, ht, rfl⟩) (fun j' hj => ⟨t, t1, by rw [et] at hj; rw [t2]; exact Option.some.inj hj⟩))
      · have hno : ∀ t, t < L → q t ≠ j := fun t ht z => hin ⟨t, ht, z⟩
        have hB' := BQu_add hB hL jK hno (by rw [hp]; exact jadj)
        have hLK' := BQu_len hB'
        rw [hA.2.2.2.2 j jK hno, if_pos rfl, grd_t (inb_nI (by omega) (by decide)), grd_t (inb_nI (by omega) (by decide))]
        unfold lt
        dsimp only
        rw [grd_t (inb_nI (show L < 3432 by omega) (by decide)), nI_clamp (show L < 2 ^ 31 by omega), nI_1, nI_1, ← hp, (hA.2.2.2.1 hh hL).1, nI_1]
        rw [hp]
        exact ih (b + 1) (by omega) fuel (by omega) (ap q L j) (ap e L (e hh + 1)) (L + 1) _ (BA_add hA hno) hB' (by omega) (by rw [ap_o hL]; exact hp) (sn (fun t ht => ⟨t, by omega, ap_o ht⟩) (fun j' hj => ⟨L, by omega, by rw [ap_n]; rw [et] at hj; exact Option.some.inj hj⟩))
theorem M_meas57_ok (h : GX G m c) (hm : MG τ0 G m) {N : Nat} (hN : 20000 ≤ N) (k : Int32 → Int32 → St → Option St) {p hh : Nat} : ∀ (d a : Nat), a + d = m → ∀ fuel, d < fuel → ∀ (q e : Nat → Nat) (L : Nat) (τ : St), BA τ0 τ G.length q e L → BQu G.length (adjG G) g q e L hh → hh < L → q hh = p → SN G m p q L a 0 → ∃ q' e' L' τ', M_measures_57 N k fuel (nI L) (nI hh) (nI p) (nI a) τ = k (nI L') (nI (hh + 1)) τ' ∧ BA τ0 τ' G.length q' e' L' ∧ BQu G.length (adjG G) g q' e' L' (hh + 1) ∧ hh < L' := by
  have hm14 := h.2.2.1
  intro d
  induction d with
  | zero =>
    intro a ha fuel hf q e L τ hA hB hL hp hS
    obtain ⟨fuel, rfl⟩ : ∃ z, fuel = z + 1 := ⟨fuel - 1, by omega⟩
    rw [M_measures_57_s, (hA.mg hm).2.1, if_pos (nI_le (by omega) (by omega)), nI_1]
    refine ⟨q, e, L, τ, rfl, hA, BQu_step hB hL (fun i hi hai => ?_), hL⟩
    rw [hp] at hai
    obtain ⟨a', b', a1, a2, a3⟩ := adj_tg h (hp ▸ hB.2.1 hh hL) hi hai
    exact hS a' b' i a2 (by omega) a3
  | succ d ih =>
    intro a ha fuel hf q e L τ hA hB hL hp hS
    obtain ⟨fuel, rfl⟩ : ∃ z, fuel = z + 1 := ⟨fuel - 1, by omega⟩
    rw [M_measures_57_s, (hA.mg hm).2.1, if_neg (nI_ge (by omega) (by omega))]
    obtain ⟨q', e', L', τ', r1, r2, r3, r4, r5, r6⟩ := M_meas69_ok h hm N (M_measures_57 N k fuel) (show a < m by omega) m 0 (by omega) N (by omega) q e L τ hA hB hL hp hS
    rw [show (0 : Int32) = nI 0 from rfl, r1]
    exact ih (a + 1) (by omega) fuel (by omega) q' e' L' τ' r2 r3 r4 r5 r6
theorem M_meas41_ok (h : GX G m c) (hm : MG τ0 G m) {N : Nat} (hN : 20000 ≤ N) : ∀ (d hh : Nat), hh + d = G.length → ∀ fuel, d < fuel → ∀ (q e : Nat → Nat) (L : Nat) (τ : St), BA τ0 τ G.length q e L → BQu G.length (adjG G) g q e L hh → hh ≤ L → ∃ q' e' L' τ', M_measures_41 N fuel (nI L) (nI hh) τ = some τ' ∧ BA τ0 τ' G.length q' e' L' ∧ BQu G.length (adjG G) g q' e' L' L' := by
  have hK := h.2.2.2
  intro d
  induction d with
  | zero =>
    intro hh hd fuel hf q e L τ hA hB hL
    obtain ⟨fuel, rfl⟩ : ∃ z, fuel = z + 1 := ⟨fuel - 1, by omega⟩
    have hLK := BQu_len hB
    rw [M_measures_41_s, if_pos (nI_le (by omega) (by omega))]
    exact ⟨q, e, L, τ, rfl, hA, (show hh = L by omega) ▸ hB⟩
  | succ d ih =>
    intro hh hd fuel hf q e L τ hA hB hL
    obtain ⟨fuel, rfl⟩ : ∃ z, fuel = z + 1 := ⟨fuel - 1, by omega⟩
    have hLK := BQu_len hB
    rw [M_measures_41_s]
    by_cases z : L ≤ hh
    · rw [if_pos (nI_le z (by omega))]
      exact ⟨q, e, L, τ, rfl, hA, (show hh = L by omega) ▸ hB⟩
    · rw [if_neg (nI_ge (by omega) (by omega)), grd_t (inb_nI (by omega) (by decide)), nI_clamp (by omega), (hA.2.2.2.1 hh (by omega)).2]
      unfold lt
      dsimp only
      obtain ⟨q', e', L', τ', r1, r2, r3, r4⟩ := M_meas57_ok h hm hN (M_measures_41 N fuel) (p := q hh) m 0 (by omega) N (by have := h.2.2.1; omega) q e L τ hA hB (by omega) rfl (fun a' b' j h1 h2 => by omega)
      rw [show (0 : Int32) = nI 0 from rfl, r1]
      exact ih (hh + 1) (by omega) fuel (by omega) q' e' L' τ' r2 r3 (by omega)
theorem M_meas2_ok (hm : MG τ0 G m) (hK : G.length ≤ 1280) (N : Nat) (k : Int32 → St → Option St) (x1 : Int32) : ∀ (d i : Nat), i + d = G.length → ∀ fuel, d < fuel → ∀ τ : St, τ.1 = τ0.1 → (∀ k, k ≠ 17 → k ≠ 18 → τ.2.1 k = τ0.2.1 k) → τ.2.2 = τ0.2.2 → (∀ j, j < i → τ.2.1 17 j = -1) → ∃ τ', M_measures_2 N k fuel x1 (nI i) τ = k x1 τ' ∧ τ'.1 = τ0.1 ∧ (∀ k, k ≠ 17 → k ≠ 18 → τ'.2.1 k = τ0.2.1 k) ∧ τ'.2.2 = τ0.2.2 ∧ ∀ j, j < G.length → τ'.2.1 17 j = -1 := by
  intro d
  induction d with
  | zero =>
    intro i hi fuel hf τ h1 h2 h3 h4
    obtain ⟨fuel, rfl⟩ : ∃ z, fuel = z + 1 := ⟨fuel - 1, by omega⟩
    rw [M_measures_2_s, h1, hm.1, if_pos (nI_le (by omega) (by omega))]
    exact ⟨τ, rfl, h1, h2, h3, fun j hj => h4 j (by omega)⟩
  | succ d ih =>
    intro i hi fuel hf τ h1 h2 h3 h4
    obtain ⟨fuel, rfl⟩ : ∃ z, fuel = z + 1 := ⟨fuel - 1, by omega⟩
    rw [M_measures_2_s, h1, hm.1, if_neg (nI_ge (by omega) (by omega)), grd_t (inb_nI (by omega) (by decide)), nI_clamp (by omega), nI_1]
    unfold lt
    refine ih (i + 1) (by omega) fuel (by omega) _ h1 (fun k a b => by rw [sa_ne _ _ _ a]; exact h2 k a b) h3 (fun j hj => ?_)
    rw [sa_same]
    by_cases z : j = i
    · rw [z, upd_s]
    · rw [upd_n _ _ z]; exact h4 j (by omega)
theorem M_measures_ok (h : GX G m c) (hm : MG τ0 G m) {N : Nat} (hN : 20000 ≤ N) (hg : g < G.length) : ∃ τ', M_measures N (nI g) τ0 = some τ' ∧ τ'.1 = τ0.1 ∧ (∀ k, k ≠ 17 → k ≠ 18 → τ'.2.1 k = τ0.2.1 k) ∧ τ'.2.2 = τ0.2.2 ∧ FD G.length (adjG G) g (τ'.2.1 17) := by
  have hK := h.2.2.2
  obtain ⟨τ1, a1, a2, a3, a4, a5⟩ := M_meas2_ok hm hK N (M_measures_23 N) (nI g) G.length 0 (by omega) N (by omega) τ0 rfl (fun _ _ _ => rfl) rfl (fun j hj => by omega)
  unfold M_measures
  rw [show (0 : Int32) = nI 0 from rfl, a1]
  unfold M_measures_23
  rw [grd_t (inb_nI (by omega) (by decide)), nI_clamp (by omega)]
  unfold lt
  dsimp only
  rw [grd_t (show inb (0 : Int32) 3432 = true by decide), show ((0 : Int32)).toNatClampNeg = 0 by decide]
  have hA0 : BA τ0 τ1 G.length (fun _ => g) (fun _ => 0) 0 := ⟨a2, a3, a4, fun t ht => by omega, fun i hi _ => a5 i hi⟩
  have hA := BA_add (j := g) (v := 0) hA0 (fun t ht => by omega)
  have hB : BQu G.length (adjG G) g (ap (fun _ => g) 0 g) (ap (fun _ => 0) 0 0) 1 0 := by
    have q0 : ∀ t, ap (fun _ => g) 0 g t = g := fun t => by unfold ap; split <;> rfl
    have e0 : ∀ t, ap (fun _ => 0) 0 0 t = 0 := fun t => by unfold ap; split <;> rfl
    refine ⟨fun s t hs ht _ => by omega, fun t ht => by rw [q0]; exact hg, ⟨by omega, q0 0, e0 0⟩, fun t ht => ?_, fun s t _ _ => by rw [e0, e0]; exact Nat.le_refl _, fun _ t _ => by rw [e0]; exact Nat.zero_le _, fun s hs => by omega⟩
    rw [e0, q0]
    exact ⟨decide_eq_true rfl, Nat.zero_le _⟩
  obtain ⟨q, e, L, τ', r1, r2, r3⟩ := M_meas41_ok h hm hN G.length 0 (by omega) N (by omega) _ _ 1 _ hA hB (by omega)
  refine ⟨τ', r1, r2.1, r2.2.1, r2.2.2.1, fun i hi => ?_⟩
  have hLK := BQu_len r3
  have all := BQu_all r3
  by_cases z : ∃ t, t < L ∧ q t = i
  · obtain ⟨t, t1, t2⟩ := z
    right
    have := r3.2.2.2.1 t t1
    refine ⟨e t, by rw [← t2]; exact (r2.2.2.2.1 t t1).1, by omega, by rw [← t2]; exact this.1, fun k hk => ?_⟩
    cases hr : RI G.length (adjG G) g k i with
    | false => rfl
    | true =>
      obtain ⟨s, s1, s2, s3⟩ := all k i hi hr
      have := r3.1 s t s1 t1 (by rw [s2, t2])
      rw [this] at s3
      omega
  · left
    refine ⟨r2.2.2.2.2 i hi (fun t ht e' => z ⟨t, ht, e'⟩), fun l => ?_⟩
    cases hr : RI G.length (adjG G) g l i with
    | false => rfl
    | true =>
      obtain ⟨s, s1, s2, s3⟩ := all l i hi hr
      exact absurd ⟨s, s1, s2⟩ z
end MRC
