/-! the calls for the way from one good tree to another -/
def ExD (K : Nat) (adj : Nat → Nat → Bool) (g d i : Nat) : Prop := RI K adj g d i = true ∧ ∀ k, k < d → RI K adj g k i = false
theorem ExD_one {K : Nat} {adj : Nat → Nat → Bool} {g d d' i : Nat} (h : ExD K adj g d i) (h' : ExD K adj g d' i) : d = d' := by
  rcases Nat.lt_trichotomy d d' with z | z | z
  · have := h'.2 d z; rw [h.1] at this; cases this
  · exact z
  · have := h.2 d' z; rw [h'.1] at this; cases this
def NE (G : List Nat) (g d i j : Nat) : Prop := j < G.length ∧ adjG G i j = true ∧ ExD G.length (adjG G) g d j ∧ ∀ j', j' < j → ¬ (adjG G i j' = true ∧ ExD G.length (adjG G) g d j')
theorem NE_one {G : List Nat} {g d i j j' : Nat} (h : NE G g d i j) (h' : NE G g d i j') : j = j' := by
  rcases Nat.lt_trichotomy j j' with z | z | z
  · exact absurd ⟨h.2.1, h.2.2.1⟩ (h'.2.2.2 j z)
  · exact z
  · exact absurd ⟨h'.2.1, h'.2.2.1⟩ (h.2.2.2 j' z)
theorem ExD_prev {G : List Nat} {g d i : Nat} (h : ExD G.length (adjG G) g (d + 1) i) : ∃ j, j < G.length ∧ adjG G i j = true ∧ ExD G.length (adjG G) g d j := by
  rcases RI_next.mp h.1 with z | ⟨j, hj, z1, z2⟩
  · rw [h.2 d (by omega)] at z; cases z
  · refine ⟨j, hj, by rw [adj_sym]; exact z2, z1, fun k hk => ?_⟩
    cases e : RI G.length (adjG G) g k j with
    | false => rfl
    | true =>
      have := h.2 (k + 1) (by omega)
      rw [RI_next.mpr (Or.inr ⟨j, hj, e, z2⟩)] at this
      cases this
theorem NE_ex {G : List Nat} {g d i : Nat} (h : ExD G.length (adjG G) g (d + 1) i) : ∃ j, NE G g d i j := by
  obtain ⟨j, h1, h2, h3⟩ := ExD_prev h
  have key : ∀ n j, j < n → j < G.length → adjG G i j = true → ExD G.length (adjG G) g d j → ∃ j, NE G g d i j := by
    intro n
    induction n with
    | zero => intro j hj; omega
    | succ n ih =>
      intro j hj h1 h2 h3
      by_cases z : ∃ j', j' < j ∧ adjG G i j' = true ∧ ExD G.length (adjG G) g d j'
      · obtain ⟨j', z1, z2, z3⟩ := z
        exact ih j' (by omega) (by omega) z2 z3
      · exact ⟨j, h1, h2, h3, fun j' hj' hh => z ⟨j', hj', hh.1, hh.2⟩⟩
  exact key (j + 1) j (by omega) h1 h2 h3
/-- the tree after t steps -/
def PTH (G : List Nat) (g D i : Nat) : Nat → Nat → Prop
  | 0, j => j = i
  | t + 1, j => ∃ b, PTH G g D i t b ∧ NE G g (D - (t + 1)) b j
theorem PTH_one {G : List Nat} {g D i : Nat} : ∀ {t j j' : Nat}, PTH G g D i t j → PTH G g D i t j' → j = j'
  | 0, j, j', h, h' => by rw [show j = i from h, show j' = i from h']
  | t + 1, j, j', ⟨b, h1, h2⟩, ⟨b', h1', h2'⟩ => by
    have := PTH_one h1 h1'
    subst this
    exact NE_one h2 h2'
theorem ExD_ds {K : Nat} {adj : Nat → Nat → Bool} {g l i : Nat} (h : RI K adj g l i = true) : ExD K adj g (ds K adj g l i) i := ds_is h
theorem m1_sub (d : Nat) : nI (d + 1) - 1 = nI d := by rw [show (1 : Int32) = nI 1 from rfl, nI_sub (by omega), Nat.add_sub_cancel]
section STP
variable {σ0 : St} {P G : List Nat} {m c g l : Nat}
theorem nextOf_ok (hs : SX σ0 P G m c) {N : Nat} {σ : St} (hx : XL σ0 σ P G g l) {i j d : Nat} (hi : i < G.length) (hd : d + 1 ≤ l) (he : ExD G.length (adjG G) g (d + 1) i) (hn : NE G g d i j) : ∀ (k q : Nat), q + k = j → ∀ fuel, k < fuel → Rt_nextOf_2 N fuel (nI (P.getD i 0)) (nI q) σ = some (nI (P.getD j 0)) := by
  have hK := hs.1.2.2.2
  have hl := hx.1
  have pi := hs.2.1 i hi
  have hz := hs.1.2.1 _ (getD_mem hi)
  have p14 : 2 ^ m ≤ 2 ^ 14 := Nat.pow_le_pow_right (by decide) hs.1.2.2.1
  have e18 : σ.1 18 = nI G.length := by rw [hx.2.1.1.1 18 (by decide)]; exact hs.2.2.2.1
  have hri : RI G.length (adjG G) g l i = true := RI_le hd he.1
  have hfi : σ.2.1 17 (P.getD i 0) = nI (d + 1) := by rw [XL_far hx hi, if_pos hri, ExD_one (ExD_ds hri) he]
  have hfar : ∀ q, q < G.length → (σ.2.1 17 (P.getD q 0) = nI d ↔ ExD G.length (adjG G) g d q) := fun q hq => by
    have dl := ds_le (K := G.length) (adj := adjG G) (g := g) l q
    rw [XL_far hx hq]
    constructor
    · intro h
      by_cases z : RI G.length (adjG G) g l q = true
      · rw [if_pos z] at h
        have := (nI_eq (by omega) (by omega)).mp h
        rw [← this]
        exact ExD_ds z
      · rw [if_neg z] at h
        exact absurd h.symm (nI_m1 (by omega))
    · intro h
      have hr : RI G.length (adjG G) g l q = true := RI_le (by omega) h.1
      rw [if_pos hr, ExD_one (ExD_ds hr) h]
  have hadj : ∀ q, q < G.length → (J_bc (σ.2.1 6 (P.getD q 0) ^^^ σ.2.1 6 (P.getD i 0)) = 2 ↔ adjG G i q = true) := fun q hq => by
    have hzq := hs.1.2.1 _ (getD_mem hq)
    have x14 : G.getD q 0 ^^^ G.getD i 0 < 2 ^ 14 := Nat.xor_lt_two_pow (by omega) (by omega)
    rw [hx.2.1.1.2.1 6 (by decide), (hs.2.2.2.2.1 q hq).2, (hs.2.2.2.2.1 i hi).2, fb_xorI, J_bc_nI (by omega), pck_ext x14 (by decide), adj_sym]
    unfold adjG
    rw [decide_eq_true_iff]
    have := fb_ct_le (fun e => (G.getD q 0 ^^^ G.getD i 0).testBit e) 14
    exact nI_eq (a := pck 14 (G.getD q 0 ^^^ G.getD i 0)) (b := 2) (by unfold pck; omega) (by decide)
  intro k
  induction k with
  | zero =>
    intro q hq fuel hf
    obtain ⟨fuel, rfl⟩ : ∃ z, fuel = z + 1 := ⟨fuel - 1, by omega⟩
    have hjK := hn.1
    have eq : q = j := by omega
    subst eq
    have pq := hs.2.1 q hjK
    rw [Rt_nextOf_2_s, e18, if_neg (nI_ge (by omega) (by omega)), grd_t (inb_nI (by omega) (by decide)), nI_clamp (show q < 2 ^ 31 by omega), hx.2.1.1.2.1 13 (by decide), (hs.2.2.2.2.1 q hjK).1]
    unfold lt
    dsimp only
    rw [grd_t (inb_nI pq (by decide)), grd_t (inb_nI pi (by decide)), nI_clamp (show P.getD q 0 < 2 ^ 31 by omega), nI_clamp (show P.getD i 0 < 2 ^ 31 by omega), hfi, show (1 : Int32) = nI 1 from rfl, nI_sub (by omega), Nat.add_sub_cancel, if_pos ((hfar q hjK).mpr hn.2.2.1), grd_t (inb_nI pq (by decide)), grd_t (inb_nI pi (by decide)), if_pos ((hadj q hjK).mpr hn.2.1)]
  | succ k ih =>
    intro q hq fuel hf
    obtain ⟨fuel, rfl⟩ : ∃ z, fuel = z + 1 := ⟨fuel - 1, by omega⟩
    have hjK : q < G.length := by have := hn.1; omega
    have pq := hs.2.1 q hjK
    have go := ih (q + 1) (by omega) fuel (by omega)
    rw [Rt_nextOf_2_s, e18, if_neg (nI_ge (by omega) (by omega)), grd_t (inb_nI (by omega) (by decide)), nI_clamp (show q < 2 ^ 31 by omega), hx.2.1.1.2.1 13 (by decide), (hs.2.2.2.2.1 q hjK).1, nI_1]
    unfold lt
    dsimp only
    rw [grd_t (inb_nI pq (by decide)), grd_t (inb_nI pi (by decide)), nI_clamp (show P.getD q 0 < 2 ^ 31 by omega), nI_clamp (show P.getD i 0 < 2 ^ 31 by omega), hfi, show (1 : Int32) = nI 1 from rfl, nI_sub (by omega), Nat.add_sub_cancel]
    by_cases z : σ.2.1 17 (P.getD q 0) = nI d
    · rw [if_pos z, grd_t (inb_nI pq (by decide)), grd_t (inb_nI pi (by decide)), if_neg (fun w => hn.2.2.2 q (by omega) ⟨(hadj q hjK).mp w, (hfar q hjK).mp z⟩), go]
    · rw [if_neg z, go]
theorem treeAt22_ok (hs : SX σ0 P G m c) {N : Nat} (hN : 20000 ≤ N) {σ : St} (hx : XL σ0 σ P G g l) {i D s : Nat} (hD : D ≤ l) (hs' : s ≤ D) (k : Int32 → St → Option (Int32 × St)) : ∀ (d t : Nat), t + d = s → ∀ fuel, d < fuel → ∀ b, b < G.length → PTH G g D i t b → ExD G.length (adjG G) g (D - t) b → ∃ j, j < G.length ∧ PTH G g D i s j ∧ Rt_treeAt_22 N k fuel (nI s) (nI (P.getD b 0)) (nI t) σ = k (nI (P.getD j 0)) σ := by
  have hl := hx.1
  have hK := hs.1.2.2.2
  intro d
  induction d with
  | zero =>
    intro t ht fuel hf b hb hp he
    obtain ⟨fuel, rfl⟩ : ∃ z, fuel = z + 1 := ⟨fuel - 1, by omega⟩
    have e : t = s := by omega
    subst e
    rw [Rt_treeAt_22_s, if_pos (nI_le (Nat.le_refl _) (by omega))]
    exact ⟨b, hb, hp, rfl⟩
  | succ d ih =>
    intro t ht fuel hf b hb hp he
    obtain ⟨fuel, rfl⟩ : ∃ z, fuel = z + 1 := ⟨fuel - 1, by omega⟩
    obtain ⟨D', hD'⟩ : ∃ D', D - t = D' + 1 := ⟨D - t - 1, by omega⟩
    rw [hD'] at he
    obtain ⟨j, hj⟩ := NE_ex he
    have hjK := hj.1
    have nx : Rt_nextOf N (nI (P.getD b 0)) σ = some (nI (P.getD j 0)) := by
      unfold Rt_nextOf
      exact nextOf_ok hs hx hb (by omega) he hj j 0 (by omega) N (by omega)
    rw [Rt_treeAt_22_s, if_neg (nI_ge (by omega) (by omega)), bnd_t nx, nI_1]
    have e : D - (t + 1) = D' := by omega
    exact ih (t + 1) (by omega) fuel (by omega) j hjK ⟨b, hp, by rw [e]; exact hj⟩ (by rw [e]; exact hj.2.2.1)
/-- the least next tree that the reference has met -/
def BNX (G : List Nat) (m g p d a b : Nat) (r : Int32) : Prop := (r = -1 ∨ ∃ j, r = nI j ∧ j < G.length ∧ adjG G p j = true ∧ ExD G.length (adjG G) g d j) ∧ ∀ a' b' j', b' < m → (a' < a ∨ (a' = a ∧ b' < b)) → tg G p a' b' = some j' → ExD G.length (adjG G) g d j' → ∃ j, r = nI j ∧ j < G.length ∧ j ≤ j'
section STM
variable {τ : St}
theorem FD_iff {K : Nat} {adj : Nat → Nat → Bool} {f : Nat → Int32} (h : FD K adj g f) {i d : Nat} (hi : i < K) (hd : d < 2 ^ 31) : f i = nI d ↔ ExD K adj g d i := by
  rcases h i hi with ⟨h1, h2⟩ | ⟨d', h1, h2, h3, h4⟩
  · rw [h1]
    exact ⟨fun e => absurd e.symm (nI_m1 hd), fun e => by have := e.1; rw [h2 d] at this; cases this⟩
  · rw [h1]
    constructor
    · intro e
      rw [← (nI_eq (by omega) hd).mp e]
      exact ⟨h3, h4⟩
    · intro e
      rw [ExD_one e ⟨h3, h4⟩]
theorem M_step50_ok (h : GX G m c) (hm : MG τ G m) (hF : FD G.length (adjG G) g (τ.2.1 17)) (N : Nat) (k : Int32 → Int32 → Int32 → Int32 → Int32 → St → Option (Int32 × St)) {p a d : Nat} (hp : p < G.length) (ha : a < m) (hd : d < 1280) (he : ExD G.length (adjG G) g (d + 1) p) (x3 x5 : Int32) : ∀ (w b : Nat), b + w = m → ∀ fuel, w < fuel → ∀ r, BNX G m g p d a b r → ∃ r', M_step_50 N k fuel x3 (nI p) x5 r (nI a) (nI b) τ = k x3 (nI p) x5 r' (nI (a + 1)) τ ∧ BNX G m g p d (a + 1) 0 r' := by
  have hK := h.2.2.2
  have hm14 := h.2.2.1
  have hfp : τ.2.1 17 p = nI (d + 1) := (FD_iff hF hp (by omega)).mpr he
  intro w
  induction w with
  | zero =>
    intro b hb fuel hf r hr
    obtain ⟨fuel, rfl⟩ : ∃ z, fuel = z + 1 := ⟨fuel - 1, by omega⟩
    rw [M_step_50_s, hm.2.1, if_pos (nI_le (by omega) (by omega)), nI_1]
    exact ⟨r, rfl, hr.1, fun a' b' j' h1 h2 => hr.2 a' b' j' h1 (by omega)⟩
  | succ w ih =>
    intro b hb fuel hf r hr
    obtain ⟨fuel, rfl⟩ : ∃ z, fuel = z + 1 := ⟨fuel - 1, by omega⟩
    rw [M_step_50_s, hm.2.1, if_neg (nI_ge (by omega) (by omega)), grd_t (inb_nI (by omega) (by decide)), nI_clamp (show p < 2 ^ 31 by omega), hm.2.2.1 p hp, bnd_t (swap_tg h hm hp ha (show b < m by omega) N), nI_1]
    have keep : (∀ j', tg G p a b = some j' → ExD G.length (adjG G) g d j' → ∃ j, r = nI j ∧ j < G.length ∧ j ≤ j') → ∃ r', M_step_50 N k fuel x3 (nI p) x5 r (nI a) (nI (b + 1)) τ = k x3 (nI p) x5 r' (nI (a + 1)) τ ∧ BNX G m g p d (a + 1) 0 r' := fun hh => ih (b + 1) (by omega) fuel (by omega) r ⟨hr.1, fun a' b' j' h1 h2 h3 h4 => by
      by_cases z : a' = a ∧ b' = b
      · rw [z.1, z.2] at h3; exact hh j' h3 h4
      · exact hr.2 a' b' j' h1 (by omega) h3 h4⟩
    cases et : tg G p a b with
    | none =>
      rw [show ofO none = -1 from rfl, if_pos rfl]
      exact keep (fun j' hj' => by rw [et] at hj'; cases hj')
    | some j =>
      obtain ⟨jK, jadj⟩ := tg_adj h hp ha (show b < m by omega) et
      rw [show ofO (some j) = nI j from rfl, if_neg (nI_m1 (by omega)), grd_t (inb_nI (by omega) (by decide)), grd_t (inb_nI (by omega) (by decide)), nI_clamp (show j < 2 ^ 31 by omega), hfp, m1_sub]
      by_cases z : τ.2.1 17 j = nI d
      · have hj := (FD_iff hF jK (by omega)).mp z
        have new : (∀ j0, r = nI j0 → j0 < G.length → j ≤ j0) → ∃ r', M_step_50 N k fuel x3 (nI p) x5 (nI j) (nI a) (nI (b + 1)) τ = k x3 (nI p) x5 r' (nI (a + 1)) τ ∧ BNX G m g p d (a + 1) 0 r' := fun hle => ih (b + 1) (by omega) fuel (by omega) (nI j) ⟨Or.inr ⟨j, rfl, jK, jadj, hj⟩, fun a' b' j' h1 h2 h3 h4 => by
          by_cases z : a' = a ∧ b' = b
          · rw [z.1, z.2, et] at h3
            exact ⟨j, rfl, jK, by have := Option.some.inj h3; omega⟩
          · obtain ⟨j0, q1, q2, q3⟩ := hr.2 a' b' j' h1 (by omega) h3 h4
            exact ⟨j, rfl, jK, by have := hle j0 q1 q2; omega⟩⟩
        rw [if_pos z]
        rcases hr.1 with e | ⟨j0, e, e1, e2, e3⟩
        · rw [if_pos e]
          exact new (fun j0 hj0 hl => by rw [e] at hj0; exact absurd hj0.symm (nI_m1 (by omega)))
        · rw [if_neg (by rw [e]; exact nI_m1 (by omega))]
          by_cases y : j0 ≤ j
          · rw [if_pos (by rw [e]; exact nI_le y (by omega))]
            exact keep (fun j' hj' _ => ⟨j0, e, e1, by rw [et] at hj'; have := Option.some.inj hj'; omega⟩)
          · rw [if_neg (by rw [e]; exact nI_ge (by omega) (by omega))]
            exact new (fun j1 hj1 hl => by rw [e] at hj1; have := (nI_eq (by omega) (by omega)).mp hj1; omega)
      · rw [if_neg z]
        exact keep (fun j' hj' hE => by
          rw [et] at hj'
          rw [← Option.some.inj hj'] at hE
          exact absurd ((FD_iff hF jK (by omega)).mpr hE) z)
theorem M_step38_ok (h : GX G m c) (hm : MG τ G m) (hF : FD G.length (adjG G) g (τ.2.1 17)) {N : Nat} (hN : 20000 ≤ N) (k : Int32 → Int32 → Int32 → St → Option (Int32 × St)) {p d j : Nat} (hp : p < G.length) (hd : d < 1280) (he : ExD G.length (adjG G) g (d + 1) p) (hj : NE G g d p j) (x3 x5 : Int32) : ∀ (w a : Nat), a + w = m → ∀ fuel, w < fuel → ∀ r, BNX G m g p d a 0 r → M_step_38 N k fuel x3 (nI p) x5 r (nI a) τ = k x3 x5 (nI j) τ := by
  have hm14 := h.2.2.1
  have hK := h.2.2.2
  intro w
  induction w with
  | zero =>
    intro a ha fuel hf r hr
    obtain ⟨fuel, rfl⟩ : ∃ z, fuel = z + 1 := ⟨fuel - 1, by omega⟩
    rw [M_step_38_s, hm.2.1, if_pos (nI_le (by omega) (by omega))]
    obtain ⟨a', b', h1, h2, h3⟩ := adj_tg h hp hj.1 hj.2.1
    obtain ⟨j0, q1, q2, q3⟩ := hr.2 a' b' j h2 (by omega) h3 hj.2.2.1
    have e : j0 = j := by
      rcases hr.1 with z | ⟨j1, z1, z2, z3, z4⟩
      · rw [q1] at z; exact absurd z (nI_m1 (by omega))
      · have : j0 = j1 := (nI_eq (by omega) (by omega)).mp (by rw [← q1, z1])
        subst this
        apply Classical.byContradiction
        intro ne
        exact hj.2.2.2 j0 (by omega) ⟨z3, z4⟩
    rw [q1, e]
  | succ w ih =>
    intro a ha fuel hf r hr
    obtain ⟨fuel, rfl⟩ : ∃ z, fuel = z + 1 := ⟨fuel - 1, by omega⟩
    rw [M_step_38_s, hm.2.1, if_neg (nI_ge (by omega) (by omega))]
    obtain ⟨r', q1, q2⟩ := M_step50_ok h hm hF N (M_step_38 N k fuel) hp (show a < m by omega) hd he x3 x5 m 0 (by omega) N (by omega) r hr
    rw [show (0 : Int32) = nI 0 from rfl, q1]
    exact ih (a + 1) (by omega) fuel (by omega) r' q2
theorem M_step26_ok (h : GX G m c) (hm : MG τ G m) (hF : FD G.length (adjG G) g (τ.2.1 17)) {N : Nat} (hN : 20000 ≤ N) (k : Int32 → St → Option (Int32 × St)) {i D s j : Nat} (hD : D < 1280) (hs' : s ≤ D) (hj : PTH G g D i s j) : ∀ (d t : Nat), t + d = s → ∀ fuel, d < fuel → ∀ b, b < G.length → PTH G g D i t b → ExD G.length (adjG G) g (D - t) b → M_step_26 N k fuel (nI s) (nI b) (nI t) τ = k (nI j) τ := by
  intro d
  induction d with
  | zero =>
    intro t ht fuel hf b hb hp he
    obtain ⟨fuel, rfl⟩ : ∃ z, fuel = z + 1 := ⟨fuel - 1, by omega⟩
    have e : t = s := by omega
    subst e
    rw [M_step_26_s, if_pos (nI_le (Nat.le_refl _) (by omega)), PTH_one hp hj]
  | succ d ih =>
    intro t ht fuel hf b hb hp he
    obtain ⟨fuel, rfl⟩ : ∃ z, fuel = z + 1 := ⟨fuel - 1, by omega⟩
    obtain ⟨D', hD'⟩ : ∃ D', D - t = D' + 1 := ⟨D - t - 1, by omega⟩
    rw [hD'] at he
    obtain ⟨q, hq⟩ := NE_ex he
    have e : D - (t + 1) = D' := by omega
    rw [M_step_26_s, if_neg (nI_ge (by omega) (by omega)), show (0 : Int32) = nI 0 from rfl, M_step38_ok h hm hF hN (M_step_130 N (M_step_26 N k fuel)) hb (by omega) he hq (nI s) (nI t) m 0 (by omega) N (by have := h.2.2.1; omega) (-1) ⟨Or.inl rfl, fun a' b' j' _ h2 => by omega⟩]
    unfold M_step_130
    rw [nI_1]
    exact ih (t + 1) (by omega) fuel (by omega) q hq.1 ⟨b, hp, by rw [e]; exact hq⟩ (by rw [e]; exact hq.2.2.1)
end STM
end STP
