/-! from the root outward: distances of the posts, sums, branches, as the reference finds them -/
abbrev BQ : Type := (Nat → Nat) × (Nat → Int32) × (Nat → Int32) × Nat
def goN (pr : Nat → Nat) (root e a c r : Nat) (q : BQ) : BQ := if q.1 a = r ∧ q.1 c = 0 then (va_up q.1 c (r + 1), upd q.2.1 c (q.2.1 a + nI (pr e)), upd q.2.2.1 c (if a = root then nI e else q.2.2.1 a), q.2.2.2 + 1) else q
def edN (fr to pr : Nat → Nat) (root x e r : Nat) (q : BQ) : BQ := if x.testBit e = true then goN pr root e (to e) (fr e) r (goN pr root e (fr e) (to e) r q) else q
def rdN (fr to pr : Nat → Nat) (root x r : Nat) : Nat → BQ → BQ
  | 0, q => q
  | e + 1, q => edN fr to pr root x e r (rdN fr to pr root x r e q)
def bfN (fr to pr : Nat → Nat) (root x m : Nat) : Nat → BQ → BQ
  | 0, q => q
  | r + 1, q => rdN fr to pr root x (r + 1) m (bfN fr to pr root x m r q)
def enda (fr to : Nat → Nat) (e u v : Nat) : Prop := (fr e = u ∧ to e = v) ∨ (fr e = v ∧ to e = u)
/-- a post's way to the root begins with a line to a nearer one -/
def par (fr to pr : Nat → Nat) (n m root x : Nat) (f : Nat → Nat) (S B : Nat → Int32) (v : Nat) : Prop := ∃ e u, e < m ∧ u < n ∧ x.testBit e = true ∧ enda fr to e u v ∧ f u ≠ 0 ∧ f v = f u + 1 ∧ S v = S u + nI (pr e) ∧ B v = (if u = root then nI e else B u)
def BJ (fr to pr : Nat → Nat) (n m root x r e : Nat) (q : BQ) : Prop :=
  (q.1 root = 1 ∧ q.2.1 root = 0 ∧ q.2.2.1 root = -1) ∧ (∀ v, v < n → q.1 v ≤ r + 1) ∧ (∀ v, v < n → v ≠ root → q.1 v ≠ 0 → par fr to pr n m root x q.1 q.2.1 q.2.2.1 v) ∧ (∀ e' u w, e' < m → x.testBit e' = true → enda fr to e' u w → q.1 u ≠ 0 → (q.1 u < r ∨ (q.1 u = r ∧ e' < e)) → q.1 w ≠ 0) ∧ q.2.2.2 = fb_ct (fun v => decide (q.1 v ≠ 0)) n
theorem up_s {α : Type} (f : Nat → α) (k : Nat) (v : α) : va_up f k v k = v := if_pos rfl
theorem up_n {α : Type} (f : Nat → α) {k j : Nat} (v : α) (h : j ≠ k) : va_up f k v j = f j := if_neg h
theorem upd_s (f : Nat → Int32) (k : Nat) (v : Int32) : upd f k v k = v := if_pos rfl
theorem upd_n (f : Nat → Int32) {k j : Nat} (v : Int32) (h : j ≠ k) : upd f k v j = f j := if_neg h
theorem fb_ct_more {p q : Nat → Bool} {i n : Nat} (hi : i < n) (hp : p i = false) (hq : ∀ k, k < n → q k = (p k || decide (k = i))) : fb_ct q n = fb_ct p n + 1 := by
  have h := fb_ct_drop (p := q) (q := p) (i := i) (n := n) hi (by rw [hq i hi]; simp) (fun k hk => by
    rw [hq k hk]
    by_cases e : k = i
    · subst e; simp [hp]
    · simp [e])
  omega
/-- one look along a line keeps all that holds -/
theorem BJ_go {fr to pr : Nat → Nat} {n m root x r e e0 a c : Nat} {q : BQ} (h : BJ fr to pr n m root x r e0 q) (he : e < m) (hx : x.testBit e = true) (hen : enda fr to e a c) (ha : a < n) (hc : c < n) (hr : 0 < r) : BJ fr to pr n m root x r e0 (goN pr root e a c r q) ∧ ((goN pr root e a c r q).1 a = r → (goN pr root e a c r q).1 c ≠ 0) ∧ (∀ v, q.1 v ≠ 0 → (goN pr root e a c r q).1 v = q.1 v) := by
  obtain ⟨⟨h1, h1b, h1c⟩, h2, h3, h4, h5⟩ := id h
  unfold goN
  by_cases z : q.1 a = r ∧ q.1 c = 0
  · rw [if_pos z]
    have hac : a ≠ c := fun y => by rw [y] at z; omega
    have hcr : c ≠ root := fun y => by rw [y] at z; omega
    have old : ∀ v, q.1 v ≠ 0 → va_up q.1 c (r + 1) v = q.1 v := fun v hv => up_n _ _ (fun y => hv (by rw [y]; exact z.2))
    refine ⟨⟨⟨?_, ?_, ?_⟩, ?_, ?_, ?_, ?_⟩, ?_, old⟩
    · show va_up q.1 c (r + 1) root = 1
      rw [up_n _ _ (Ne.symm hcr)]; exact h1
    · show upd q.2.1 c _ root = 0
      rw [upd_n _ _ (Ne.symm hcr)]; exact h1b
    · show upd q.2.2.1 c _ root = -1
      rw [upd_n _ _ (Ne.symm hcr)]; exact h1c
    · intro v hv
      show va_up q.1 c (r + 1) v ≤ r + 1
      by_cases y : v = c
      · rw [y, up_s]; exact Nat.le_refl _
      · rw [up_n _ _ y]; exact h2 v hv
    · intro v hv hvr hv0
      show par fr to pr n m root x (va_up q.1 c (r + 1)) (upd q.2.1 c _) (upd q.2.2.1 c _) v
      by_cases y : v = c
      · subst y
        refine ⟨e, a, he, ha, hx, hen, ?_, ?_, ?_, ?_⟩
        · rw [up_n _ _ hac]; omega
        · rw [up_s, up_n _ _ hac, z.1]
        · rw [upd_s, upd_n _ _ hac]
        · rw [upd_s, upd_n _ _ hac]
      · have hv1 : q.1 v ≠ 0 := by
          have : va_up q.1 c (r + 1) v ≠ 0 := hv0
          rwa [up_n _ _ y] at this
        obtain ⟨e1, u, p1, p2, p3, p4, p5, p6, p7, p8⟩ := h3 v hv hvr hv1
        have huc : u ≠ c := fun w => p5 (by rw [w]; exact z.2)
        refine ⟨e1, u, p1, p2, p3, p4, ?_, ?_, ?_, ?_⟩
        · rw [up_n _ _ huc]; exact p5
        · rw [up_n _ _ y, up_n _ _ huc]; exact p6
        · rw [upd_n _ _ y, upd_n _ _ huc]; exact p7
        · rw [upd_n _ _ y, upd_n _ _ huc]; exact p8
    · intro e' u w he' hx' hen' hu hcase
      show va_up q.1 c (r + 1) w ≠ 0
      have huc : u ≠ c := by
        intro y
        have hu2 : va_up q.1 c (r + 1) u < r ∨ (va_up q.1 c (r + 1) u = r ∧ e' < e0) := hcase
        rw [y, up_s] at hu2
        omega
      have hu1 : q.1 u ≠ 0 := by
        have : va_up q.1 c (r + 1) u ≠ 0 := hu
        rwa [up_n _ _ huc] at this
      have hu2 : va_up q.1 c (r + 1) u < r ∨ (va_up q.1 c (r + 1) u = r ∧ e' < e0) := hcase
      rw [up_n _ _ huc] at hu2
      have := h4 e' u w he' hx' hen' hu1 hu2
      rw [old w this]; exact this
    · show q.2.2.2 + 1 = fb_ct (fun v => decide (va_up q.1 c (r + 1) v ≠ 0)) n
      rw [h5]
      refine (fb_ct_more (i := c) hc (by simp [z.2]) (fun k _ => ?_)).symm
      by_cases y : k = c
      · subst y; rw [up_s]; simp
      · rw [up_n _ _ y]; simp [y]
    · intro _
      show va_up q.1 c (r + 1) c ≠ 0
      rw [up_s]; omega
  · rw [if_neg z]
    exact ⟨h, fun y w => z ⟨y, w⟩, fun _ _ => rfl⟩
theorem BJ_ed {fr to pr : Nat → Nat} {n m root x r e : Nat} {q : BQ} (h : BJ fr to pr n m root x r e q) (he : e < m) (hE : ends fr to n m) (hr : 0 < r) : BJ fr to pr n m root x r (e + 1) (edN fr to pr root x e r q) := by
  have hE := hE e he
  unfold edN
  by_cases hx : x.testBit e = true
  · rw [if_pos hx]
    obtain ⟨a1, a2, a3⟩ := BJ_go h he hx (Or.inl ⟨rfl, rfl⟩) hE.1 hE.2 hr
    obtain ⟨b1, b2, b3⟩ := BJ_go a1 he hx (Or.inr ⟨rfl, rfl⟩) hE.2 hE.1 hr
    obtain ⟨c1, c2, c3, c4, c5⟩ := b1
    refine ⟨c1, c2, c3, fun e' u w he' hx' hen hu hcase => ?_, c5⟩
    by_cases y : e' = e
    · subst y
      rcases hcase with z | ⟨z, -⟩
      · exact c4 e' u w he' hx' hen hu (Or.inl z)
      · rcases hen with ⟨rfl, rfl⟩ | ⟨rfl, rfl⟩
        · -- u = fr, w = to: it came in the first look
          generalize hq1 : goN pr root e' (fr e') (to e') r q = q1 at *
          by_cases k1 : q1.1 (fr e') = 0
          · have k2 : (goN pr root e' (to e') (fr e') r q1).1 (fr e') = r + 1 := by
              unfold goN at z ⊢
              by_cases y : q1.1 (to e') = r ∧ q1.1 (fr e') = 0
              · rw [if_pos y] at z ⊢; exact up_s _ _ _
              · rw [if_neg y] at z; omega
            omega
          · have k3 := b3 (fr e') k1
            rw [k3] at z
            have k4 := a2 z
            rw [b3 _ k4]; exact k4
        · exact b2 z
    · refine c4 e' u w he' hx' hen hu ?_
      rcases hcase with z | ⟨z, z2⟩
      · exact Or.inl z
      · exact Or.inr ⟨z, by omega⟩
  · rw [if_neg hx]
    obtain ⟨c1, c2, c3, c4, c5⟩ := h
    refine ⟨c1, c2, c3, fun e' u w he' hx' hen hu hcase => ?_, c5⟩
    have y : e' ≠ e := fun y => hx (by rw [← y]; exact hx')
    refine c4 e' u w he' hx' hen hu ?_
    rcases hcase with z | ⟨z, z2⟩
    · exact Or.inl z
    · exact Or.inr ⟨z, by omega⟩
theorem BJ_rd {fr to pr : Nat → Nat} {n m root x r : Nat} (hE : ends fr to n m) (hr : 0 < r) : ∀ (e : Nat) (q : BQ), e ≤ m → BJ fr to pr n m root x r 0 q → BJ fr to pr n m root x r e (rdN fr to pr root x r e q) := by
  intro e
  induction e with
  | zero => intro q _ h; exact h
  | succ e ih => intro q he h; exact BJ_ed (ih q (by omega) h) (by omega) hE hr
theorem BJ_next {fr to pr : Nat → Nat} {n m root x r : Nat} {q : BQ} (h : BJ fr to pr n m root x r m q) : BJ fr to pr n m root x (r + 1) 0 q := by
  obtain ⟨c1, c2, c3, c4, c5⟩ := h
  refine ⟨c1, fun v hv => Nat.le_succ_of_le (c2 v hv), c3, fun e' u w he' hx' hen hu hcase => ?_, c5⟩
  refine c4 e' u w he' hx' hen hu ?_
  rcases hcase with z | ⟨z, z2⟩
  · rcases Nat.lt_or_ge (q.1 u) r with y | y
    · exact Or.inl y
    · exact Or.inr ⟨by omega, he'⟩
  · omega
theorem BJ_bf {fr to pr : Nat → Nat} {n m root x : Nat} (hE : ends fr to n m) : ∀ (r : Nat) (q : BQ), BJ fr to pr n m root x 1 0 q → BJ fr to pr n m root x (r + 1) 0 (bfN fr to pr root x m r q) := by
  intro r
  induction r with
  | zero => intro q h; exact h
  | succ r ih => intro q h; exact BJ_next (BJ_rd hE (Nat.succ_pos r) m _ (Nat.le_refl m) (ih q h))
theorem BJ_chain {fr to pr : Nat → Nat} {n m root x r e : Nat} {q : BQ} (hroot : root < n) (h : BJ fr to pr n m root x r e q) : ∀ (d v : Nat), v < n → q.1 v = d + 1 → ∀ i, i ≤ d → ∃ u, u < n ∧ q.1 u = i + 1 := by
  intro d
  induction d with
  | zero => intro v hv e i hi; exact ⟨v, hv, by rw [e]; omega⟩
  | succ d ih =>
    intro v hv e i hi
    rcases Nat.lt_or_ge i (d + 1) with z | z
    · by_cases hvr : v = root
      · rw [hvr, h.1.1] at e; omega
      · obtain ⟨e1, u, p1, p2, p3, p4, p5, p6, p7, p8⟩ := h.2.2.1 v hv hvr (by omega)
        exact ih u p2 (by omega) i (by omega)
    · exact ⟨v, hv, by rw [e]; omega⟩
/-- if not all posts are reached, those that are have no line outward -/
theorem BJ_closed {fr to pr : Nat → Nat} {n m root x : Nat} {q : BQ} (hroot : root < n) (h : BJ fr to pr n m root x n 0 q) (hle : ∀ v, v < n → q.1 v ≤ n) {v0 : Nat} (hv0 : v0 < n) (h0 : q.1 v0 = 0) : ∀ e' u w, e' < m → x.testBit e' = true → enda fr to e' u w → u < n → q.1 u ≠ 0 → q.1 w ≠ 0 := by
  intro e' u w he' hx' hen hun hu
  refine h.2.2.2.1 e' u w he' hx' hen hu (Or.inl ?_)
  refine Nat.lt_of_le_of_ne (hle u hun) (fun z => ?_)
  have hch := BJ_chain hroot h (n - 1) u hun (by omega)
  have hsel : ∀ i, ∃ w, i < n → (w < n ∧ q.1 w = i + 1) := fun i => by
    by_cases hi : i < n
    · obtain ⟨w, p1, p2⟩ := hch i (by omega); exact ⟨w, fun _ => ⟨p1, p2⟩⟩
    · exact ⟨0, fun y => absurd y hi⟩
  obtain ⟨g, hg⟩ := Classical.axiomOfChoice hsel
  obtain ⟨i, hi, e⟩ := fb_onto (f := g) (fun i hi => (hg i hi).1) (fun i j hij hj e => by
    have a := (hg i (by omega)).2
    have b := (hg j hj).2
    rw [e] at a
    omega) hv0
  have := (hg i hi).2
  rw [e] at this
  omega
/-- all posts are reached just if the labels are one -/
theorem BJ_tree {fr to pr : Nat → Nat} {n m root x : Nat} {q : BQ} (hE : ends fr to n m) (hroot : root < n) (h : BJ fr to pr n m root x n 0 q) (hle : ∀ v, v < n → q.1 v ≤ n) : q.2.2.2 = n ↔ ∀ v, v < n → fl fr to m (fun v => v) x v = fl fr to m (fun v => v) x 0 := by
  have hcnt : q.2.2.2 = n ↔ ∀ v, v < n → q.1 v ≠ 0 := by
    rw [h.2.2.2.2]
    constructor
    · intro e v hv; exact of_decide_eq_true (fb_ct_all.mp e v hv)
    · intro e; exact fb_ct_all.mpr (fun v hv => decide_eq_true (e v hv))
  rw [hcnt]
  constructor
  · intro hall
    have up : ∀ (d v : Nat), v < n → q.1 v = d + 1 → fl fr to m (fun v => v) x v = fl fr to m (fun v => v) x root := by
      intro d
      induction d with
      | zero =>
        intro v hv e
        by_cases hvr : v = root
        · rw [hvr]
        · obtain ⟨e1, u, p1, p2, p3, p4, p5, p6, p7, p8⟩ := h.2.2.1 v hv hvr (by omega)
          omega
      | succ d ih =>
        intro v hv e
        by_cases hvr : v = root
        · rw [hvr]
        · obtain ⟨e1, u, p1, p2, p3, p4, p5, p6, p7, p8⟩ := h.2.2.1 v hv hvr (by omega)
          have h1 := ih u p2 (by omega)
          have h2 := fl_edge (fr := fr) (to := to) m (fun v => v) x e1 p1 p3
          rcases p4 with ⟨rfl, rfl⟩ | ⟨rfl, rfl⟩
          · rw [← h2]; exact h1
          · rw [h2]; exact h1
    intro v hv
    have a := up (q.1 v - 1) v hv (by have := hall v hv; omega)
    have b := up (q.1 0 - 1) 0 (by omega) (by have := hall 0 (by omega); omega)
    rw [a, b]
  · intro hl v hv
    refine Classical.byContradiction fun z => ?_
    have z0 : q.1 v = 0 := Classical.byContradiction fun y => z y
    have hcl := BJ_closed hroot h hle hv z0
    have hU := fl_comp (fr := fr) (to := to) (U := fun u => u < n ∧ q.1 u ≠ 0) m (fun v => v) x (fun u w e => by rw [show u = w from e]) (fun e he hx => by
      have hE := hE e he
      constructor
      · intro y; exact ⟨hE.2, hcl e _ _ he hx (Or.inl ⟨rfl, rfl⟩) hE.1 y.2⟩
      · intro y; exact ⟨hE.1, hcl e _ _ he hx (Or.inr ⟨rfl, rfl⟩) hE.2 y.2⟩) root v (by rw [hl root hroot, hl v hv])
    exact (hU.mp ⟨hroot, by rw [h.1.1]; decide⟩).2 z0
