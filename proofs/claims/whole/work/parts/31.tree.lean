/-! a tree seen from its root: every line leads down to one post -/
def TP (fr to pr : Nat → Nat) (n m root x : Nat) (f pe pa sN bN : Nat → Nat) : Prop :=
  root < n ∧ f root = 1 ∧ pa root = root ∧ sN root = 0 ∧ (∀ v, v < n → v ≠ root → pe v < m ∧ pa v < n ∧ x.testBit (pe v) = true ∧ enda fr to (pe v) (pa v) v ∧ f (pa v) ≠ 0 ∧ f v = f (pa v) + 1 ∧ sN v = sN (pa v) + pr (pe v) ∧ bN v = (if pa v = root then pe v else bN (pa v))) ∧ (∀ e, e < m → x.testBit e = true → ∃ v, v < n ∧ v ≠ root ∧ pe v = e) ∧ (∀ v, v < n → f v ≠ 0 ∧ f v ≤ n)
theorem enda_ne {fr to : Nat → Nat} {e u v : Nat} (h : enda fr to e u v) (hne : fr e ≠ to e) : u ≠ v := by
  rcases h with ⟨rfl, rfl⟩ | ⟨rfl, rfl⟩
  · exact hne
  · exact Ne.symm hne
theorem pe_inj {fr to pr : Nat → Nat} {n m root x : Nat} {f pe pa : Nat → Nat} (h : ∀ v, v < n → v ≠ root → enda fr to (pe v) (pa v) v ∧ f v = f (pa v) + 1) {u v : Nat} (hu : u < n) (hv : v < n) (hur : u ≠ root) (hvr : v ≠ root) (e : pe u = pe v) : u = v := by
  obtain ⟨a1, a2⟩ := h u hu hur
  obtain ⟨b1, b2⟩ := h v hv hvr
  rw [e] at a1
  rcases a1 with ⟨p1, p2⟩ | ⟨p1, p2⟩ <;> rcases b1 with ⟨q1, q2⟩ | ⟨q1, q2⟩
  · rw [← p2, q2]
  · have h1 : pa u = v := by rw [← p1, q1]
    have h2 : u = pa v := by rw [← p2, q2]
    rw [h1] at a2; rw [← h2] at b2; omega
  · have h1 : u = pa v := by rw [← p1, q1]
    have h2 : pa u = v := by rw [← p2, q2]
    rw [h2] at a2; rw [← h1] at b2; omega
  · rw [← p1, q1]
/-- what the reference has found of a tree -/
theorem TP_of {fr to pr : Nat → Nat} {n m root x r e : Nat} {q : BQ} (hroot : root < n) (hm : m ≤ 14) (hn : n ≤ 8) (hpr : ∀ e, e < m → pr e ≤ 999) (h : BJ fr to pr n m root x r e q) (hall : ∀ v, v < n → q.1 v ≠ 0) (hle : ∀ v, v < n → q.1 v ≤ n) (hp : pck m x + 1 = n) : ∃ pe pa sN bN : Nat → Nat, TP fr to pr n m root x q.1 pe pa sN bN ∧ (∀ v, v < n → q.2.1 v = nI (sN v) ∧ sN v ≤ 7000) ∧ (∀ v, v < n → v ≠ root → q.2.2.1 v = nI (bN v) ∧ bN v < m) := by
  have hsel : ∀ v, ∃ z : Nat × Nat, v < n → v ≠ root → (z.1 < m ∧ z.2 < n ∧ x.testBit z.1 = true ∧ enda fr to z.1 z.2 v ∧ q.1 z.2 ≠ 0 ∧ q.1 v = q.1 z.2 + 1 ∧ q.2.1 v = q.2.1 z.2 + nI (pr z.1) ∧ q.2.2.1 v = (if z.2 = root then nI z.1 else q.2.2.1 z.2)) := by
    intro v
    by_cases hv : v < n ∧ v ≠ root
    · obtain ⟨e1, u, p⟩ := h.2.2.1 v hv.1 hv.2 (hall v hv.1)
      exact ⟨(e1, u), fun _ _ => p⟩
    · exact ⟨(0, 0), fun a b => absurd ⟨a, b⟩ hv⟩
  obtain ⟨g, hg⟩ := Classical.axiomOfChoice hsel
  have key : ∀ (d v : Nat), v < n → q.1 v = d + 1 → (∃ k, q.2.1 v = nI k ∧ k ≤ 999 * d) ∧ (v ≠ root → ∃ k, q.2.2.1 v = nI k ∧ k < m) := by
    intro d
    induction d with
    | zero =>
      intro v hv hd
      by_cases hr : v = root
      · subst hr; exact ⟨⟨0, by rw [h.1.2.1]; rfl, by omega⟩, fun z => absurd rfl z⟩
      · have := (hg v hv hr).2.2.2.2
        exact absurd this.2.1 (by omega)
    | succ d ih =>
      intro v hv hd
      by_cases hr : v = root
      · rw [hr, h.1.1] at hd; omega
      · obtain ⟨p1, p2, p3, p4, p5, p6, p7, p8⟩ := hg v hv hr
        obtain ⟨⟨k, hk1, hk2⟩, hk3⟩ := ih (g v).2 p2 (by omega)
        refine ⟨⟨k + pr (g v).1, by rw [p7, hk1, nI_add], by have := hpr _ p1; omega⟩, fun _ => ?_⟩
        by_cases hz : (g v).2 = root
        · exact ⟨(g v).1, by rw [p8, if_pos hz], p1⟩
        · obtain ⟨k2, h1, h2⟩ := hk3 hz
          exact ⟨k2, by rw [p8, if_neg hz, h1], h2⟩
  have hS : ∀ v, ∃ k, v < n → (q.2.1 v = nI k ∧ k ≤ 7000) := fun v => by
    by_cases hv : v < n
    · obtain ⟨k, h1, h2⟩ := (key (q.1 v - 1) v hv (by have := hall v hv; omega)).1
      have := hle v hv
      exact ⟨k, fun _ => ⟨h1, by omega⟩⟩
    · exact ⟨0, fun z => absurd z hv⟩
  have hB : ∀ v, ∃ k, v < n → v ≠ root → (q.2.2.1 v = nI k ∧ k < m) := fun v => by
    by_cases hv : v < n ∧ v ≠ root
    · obtain ⟨k, h1, h2⟩ := (key (q.1 v - 1) v hv.1 (by have := hall v hv.1; omega)).2 hv.2
      exact ⟨k, fun _ _ => ⟨h1, h2⟩⟩
    · exact ⟨0, fun a b => absurd ⟨a, b⟩ hv⟩
  obtain ⟨sN, hsN⟩ := Classical.axiomOfChoice hS
  obtain ⟨bN, hbN⟩ := Classical.axiomOfChoice hB
  have hpe : ∀ v, v < n → v ≠ root → enda fr to (g v).1 (g v).2 v ∧ q.1 v = q.1 (g v).2 + 1 := fun v hv hr => ⟨(hg v hv hr).2.2.2.1, (hg v hv hr).2.2.2.2.2.1⟩
  have hpa : ∀ v, v ≠ root → (if v = root then root else (g v).2) = (g v).2 := fun v hv => if_neg hv
  refine ⟨fun v => (g v).1, fun v => if v = root then root else (g v).2, sN, bN, ⟨hroot, h.1.1, if_pos rfl, ?_, ?_, ?_, fun v hv => ⟨hall v hv, hle v hv⟩⟩, hsN, hbN⟩
  · have h1 := (hsN root hroot)
    rw [h.1.2.1] at h1
    exact ((nI_eq (by decide) (by omega)).mp (show nI 0 = nI (sN root) from h1.1)).symm
  · intro v hv hr
    obtain ⟨p1, p2, p3, p4, p5, p6, p7, p8⟩ := hg v hv hr
    simp only [if_neg hr]
    refine ⟨p1, p2, p3, p4, p5, p6, ?_, ?_⟩
    · have h1 := hsN v hv
      have h2 := hsN _ p2
      rw [h1.1, h2.1, nI_add] at p7
      have := hpr _ p1
      exact (nI_eq (by omega) (by omega)).mp p7
    · have h1 := hbN v hv hr
      rw [h1.1] at p8
      by_cases hz : (g v).2 = root
      · rw [if_pos hz] at p8 ⊢
        exact (nI_eq (by omega) (by omega)).mp p8
      · rw [if_neg hz] at p8 ⊢
        have h2 := hbN _ p2 hz
        rw [h2.1] at p8
        exact (nI_eq (by omega) (by omega)).mp p8
  · intro e1 he1 hx1
    have hb : ∀ i, i < n - 1 → fb_ct (fun e => x.testBit e) (g (sk root i)).1 < n - 1 := by
      intro i hi
      have hi1 : sk root i < n := by unfold sk; split <;> omega
      obtain ⟨p1, p2, p3, -⟩ := hg (sk root i) hi1 (sk_ne root i)
      have h1 : fb_ct (fun e => x.testBit e) ((g (sk root i)).1 + 1) = fb_ct (fun e => x.testBit e) (g (sk root i)).1 + 1 := by rw [fb_ct_succ, if_pos p3]
      have h2 := fb_ct_mono (fun e => x.testBit e) (show (g (sk root i)).1 + 1 ≤ m by omega)
      unfold pck at hp
      omega
    have hin : ∀ i j, i < j → j < n - 1 → fb_ct (fun e => x.testBit e) (g (sk root i)).1 ≠ fb_ct (fun e => x.testBit e) (g (sk root j)).1 := by
      intro i j hij hj e
      have hi1 : sk root i < n := by unfold sk; split <;> omega
      have hj1 : sk root j < n := by unfold sk; split <;> omega
      have e2 := fb_ct_kth_one (p := fun e => x.testBit e) (hg _ hi1 (sk_ne root i)).2.2.1 (hg _ hj1 (sk_ne root j)).2.2.1 e
      have e3 := pe_inj (fr := fr) (to := to) (pr := pr) (m := m) (x := x) (f := q.1) (pe := fun v => (g v).1) (pa := fun v => (g v).2) hpe hi1 hj1 (sk_ne root i) (sk_ne root j) e2
      have := sk_lt (b := root) hij
      omega
    have hr1 : fb_ct (fun e => x.testBit e) e1 < n - 1 := by
      have h1 : fb_ct (fun e => x.testBit e) (e1 + 1) = fb_ct (fun e => x.testBit e) e1 + 1 := by rw [fb_ct_succ, if_pos hx1]
      have h2 := fb_ct_mono (fun e => x.testBit e) (show e1 + 1 ≤ m by omega)
      unfold pck at hp
      omega
    obtain ⟨i, hi, e2⟩ := fb_onto hb hin hr1
    have hi1 : sk root i < n := by unfold sk; split <;> omega
    exact ⟨sk root i, hi1, sk_ne root i, fb_ct_kth_one (p := fun e => x.testBit e) (hg _ hi1 (sk_ne root i)).2.2.1 hx1 e2⟩
/-- the k-th post above -/
def anc (pa : Nat → Nat) : Nat → Nat → Nat
  | 0, u => u
  | k + 1, u => pa (anc pa k u)
/-- u hangs on w -/
def de (f pa : Nat → Nat) (w u : Nat) : Bool := decide (f w ≤ f u) && decide (anc pa (f u - f w) u = w)
theorem anc_f {fr to pr : Nat → Nat} {n m root x : Nat} {f pe pa sN bN : Nat → Nat} (h : TP fr to pr n m root x f pe pa sN bN) : ∀ (k u : Nat), u < n → k < f u → anc pa k u < n ∧ f (anc pa k u) + k = f u := by
  intro k
  induction k with
  | zero => intro u hu _; exact ⟨hu, rfl⟩
  | succ k ih =>
    intro u hu hk
    obtain ⟨h1, h2⟩ := ih u hu (by omega)
    have hr : anc pa k u ≠ root := fun z => by rw [z, h.2.1] at h2; omega
    obtain ⟨p1, p2, p3, p4, p5, p6, -⟩ := h.2.2.2.2.1 _ h1 hr
    exact ⟨p2, by show f (pa (anc pa k u)) + (k + 1) = f u; omega⟩
theorem de_iff {f pa : Nat → Nat} {w u : Nat} : de f pa w u = true ↔ f w ≤ f u ∧ anc pa (f u - f w) u = w := by unfold de; rw [Bool.and_eq_true, decide_eq_true_eq, decide_eq_true_eq]
/-- below w: w itself, or below just one of those that hang on it -/
theorem de_step {fr to pr : Nat → Nat} {n m root x : Nat} {f pe pa sN bN : Nat → Nat} (h : TP fr to pr n m root x f pe pa sN bN) {w u : Nat} (hw : w < n) (hu : u < n) (hne : u ≠ w) : de f pa w u = true ↔ ∃ c, c < n ∧ c ≠ root ∧ pa c = w ∧ de f pa c u = true := by
  rw [de_iff]
  constructor
  · rintro ⟨h1, h2⟩
    have hlt : f w < f u := by
      refine Nat.lt_of_le_of_ne h1 (fun z => hne ?_)
      rw [z, Nat.sub_self] at h2
      exact h2
    have hfw := (h.2.2.2.2.2.2 w hw).1
    obtain ⟨a1, a2⟩ := anc_f h (f u - f w - 1) u hu (by omega)
    refine ⟨anc pa (f u - f w - 1) u, a1, ?_, ?_, de_iff.mpr ⟨by omega, ?_⟩⟩
    · intro z; rw [z, h.2.1] at a2; omega
    · have : f u - f w = f u - f w - 1 + 1 := by omega
      rw [this] at h2
      exact h2
    · congr 1; omega
  · rintro ⟨c, hc, hcr, hpa, hd⟩
    obtain ⟨d1, d2⟩ := de_iff.mp hd
    have hfc := (h.2.2.2.2.1 c hc hcr).2.2.2.2.2.1
    rw [hpa] at hfc
    refine ⟨by omega, ?_⟩
    have : f u - f w = f u - f c + 1 := by omega
    rw [this]
    show pa (anc pa (f u - f c) u) = w
    rw [d2, hpa]
theorem de_one {fr to pr : Nat → Nat} {n m root x : Nat} {f pe pa sN bN : Nat → Nat} (h : TP fr to pr n m root x f pe pa sN bN) {c d u : Nat} (hc : c < n) (hd : d < n) (hcr : c ≠ root) (hdr : d ≠ root) (hpa : pa c = pa d) (h1 : de f pa c u = true) (h2 : de f pa d u = true) : c = d := by
  have a := (h.2.2.2.2.1 c hc hcr).2.2.2.2.2.1
  have b := (h.2.2.2.2.1 d hd hdr).2.2.2.2.2.1
  rw [hpa] at a
  have e1 := (de_iff.mp h1).2
  have e2 := (de_iff.mp h2).2
  rw [← e1, ← e2, a, b]
theorem de_self {f pa : Nat → Nat} (w : Nat) : de f pa w w = true := de_iff.mpr ⟨Nat.le_refl _, by rw [Nat.sub_self]; rfl⟩
/-- a child does not have its elder below it -/
theorem de_up {fr to pr : Nat → Nat} {n m root x : Nat} {f pe pa sN bN : Nat → Nat} (h : TP fr to pr n m root x f pe pa sN bN) {c w : Nat} (hc : c < n) (hcr : c ≠ root) (hpa : pa c = w) : de f pa c w = false := by
  have a := (h.2.2.2.2.1 c hc hcr).2.2.2.2.2.1
  rw [hpa] at a
  refine Bool.eq_false_iff.mpr (fun z => ?_)
  have := (de_iff.mp z).1
  omega
