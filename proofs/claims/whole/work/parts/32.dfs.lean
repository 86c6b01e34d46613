/-! a walk down a tree: what is met, in its order -/
def cel (fr to : Nat → Nat) (m y w : Nat) : List Nat := (List.range m).filter (fun e => y.testBit e && (decide (fr e = w) || decide (to e = w)))
def dl (fr to pr : Nat → Nat) (m : Nat) : Nat → Nat → Nat → Nat → Nat → Nat → List (Nat × Nat × Nat × Nat)
  | 0, _, _, _, _, _ => []
  | h + 1, y, e, v, d, s => (fr e + to e - v, e, d, s + pr e) :: (cel fr to m (y ^^^ 2 ^ e) (fr e + to e - v)).flatMap (fun e' => dl fr to pr m h (y ^^^ 2 ^ e) e' (fr e + to e - v) (d + 1) (s + pr e))
theorem fb_sm_single {a : Nat → Nat} {m i : Nat} (hi : i < m) (h : ∀ e, e < m → e ≠ i → a e = 0) : fb_sm a m = a i := by
  have h1 := fb_sm_upd (fun _ => 0) (a i) hi
  have h2 : fb_sm a m = fb_sm (fun k => if k = i then a i else 0) m := fb_sm_cong (fun k hk => by
    by_cases z : k = i
    · rw [if_pos z, z]
    · rw [if_neg z, h k hk z])
  have h3 : fb_sm (fun _ => 0) m = 0 := by rw [fb_sm_const, Nat.mul_zero]
  rw [h2]
  omega
theorem fb_sm_none {a : Nat → Nat} {m : Nat} (h : ∀ e, e < m → a e = 0) : fb_sm a m = 0 := by
  rw [fb_sm_cong (g := fun _ => 0) h, fb_sm_const, Nat.mul_zero]
theorem fb_sm_swap (a : Nat → Nat → Nat) (n : Nat) : ∀ m, fb_sm (fun i => fb_sm (fun j => a i j) n) m = fb_sm (fun j => fb_sm (fun i => a i j) m) n := by
  intro m
  induction m with
  | zero => exact (fb_sm_none (fun _ _ => rfl)).symm
  | succ m ih =>
    rw [fb_sm_succ, ih, ← fb_sm_add]
    exact fb_sm_cong (fun j _ => by rw [fb_sm_succ])
theorem sum_filter (p : Nat → Bool) (F : Nat → Nat) : ∀ m, (((List.range m).filter p).map F).sum = fb_sm (fun e => if p e = true then F e else 0) m := by
  intro m
  induction m with
  | zero => rfl
  | succ m ih =>
    rw [List.range_succ, List.filter_append, List.map_append, List.sum_append, ih, fb_sm_succ]
    congr 1
    by_cases h : p m = true
    · simp [h]
    · simp [h]
theorem sum_flat {α β : Type} (L : List α) (F : α → List β) (g : β → Nat) : ((L.flatMap F).map g).sum = (L.map (fun a => ((F a).map g).sum)).sum := by
  induction L with
  | nil => rfl
  | cons a L ih => rw [List.flatMap_cons, List.map_append, List.sum_append, ih, List.map_cons, List.sum_cons]
theorem tb_xor (y e i : Nat) : (y ^^^ 2 ^ e).testBit i = (y.testBit i ^^ decide (i = e)) := fb_bit_flip y e i
theorem other_end {fr to : Nat → Nat} {e u v : Nat} (h : enda fr to e u v) : fr e + to e - u = v := by
  rcases h with ⟨rfl, rfl⟩ | ⟨rfl, rfl⟩ <;> omega
/-- the lines that hang on w -/
theorem cel_tree {fr to pr : Nat → Nat} {n m root x : Nat} {f pe pa sN bN : Nat → Nat} (h : TP fr to pr n m root x f pe pa sN bN) (hE : ∀ e, e < m → fr e ≠ to e) {w y : Nat} (hw : w < n) (hwr : w ≠ root) (hy1 : ∀ e, e < m → y.testBit e = true → x.testBit e = true) (hy2 : ∀ c, c < n → c ≠ root → f (pa w) < f c → y.testBit (pe c) = true) (e : Nat) : e ∈ cel fr to m (y ^^^ 2 ^ pe w) w ↔ ∃ c, c < n ∧ c ≠ root ∧ pa c = w ∧ pe c = e := by
  have hinj := fun {u v : Nat} (hu : u < n) (hv : v < n) (hur : u ≠ root) (hvr : v ≠ root) (e : pe u = pe v) => pe_inj (fr := fr) (to := to) (pr := pr) (m := m) (x := x) (f := f) (pe := pe) (pa := pa) (fun v hv hr => ⟨(h.2.2.2.2.1 v hv hr).2.2.2.1, (h.2.2.2.2.1 v hv hr).2.2.2.2.2.1⟩) hu hv hur hvr e
  obtain ⟨w1, w2, w3, w4, w5, w6, w7, w8⟩ := h.2.2.2.2.1 w hw hwr
  unfold cel
  rw [List.mem_filter, List.mem_range, Bool.and_eq_true, Bool.or_eq_true, decide_eq_true_eq, decide_eq_true_eq, tb_xor]
  constructor
  · rintro ⟨he, hb, hi⟩
    have hne : e ≠ pe w := by
      intro z
      rw [z, hy2 w hw hwr (by omega)] at hb
      simp at hb
    have hyb : y.testBit e = true := by simpa [hne] using hb
    obtain ⟨c, hc, hcr, hce⟩ := h.2.2.2.2.2.1 e he (hy1 e he hyb)
    refine ⟨c, hc, hcr, ?_, hce⟩
    have hcw : c ≠ w := fun z => hne (by rw [← hce, z])
    have hen := (h.2.2.2.2.1 c hc hcr).2.2.2.1
    rw [hce] at hen
    rcases hen with ⟨a1, a2⟩ | ⟨a1, a2⟩ <;> rcases hi with b | b
    · rw [← a1, b]
    · exact absurd (by rw [← a2, b]) hcw
    · exact absurd (by rw [← a1, b]) hcw
    · rw [← a2, b]
  · rintro ⟨c, hc, hcr, hpa, rfl⟩
    obtain ⟨c1, c2, c3, c4, c5, c6, c7, c8⟩ := h.2.2.2.2.1 c hc hcr
    rw [hpa] at c4 c6
    have hcw : c ≠ w := fun z => by rw [z] at c6; omega
    have hne : pe c ≠ pe w := fun z => hcw (hinj hc hw hcr hwr z)
    refine ⟨c1, ?_, ?_⟩
    · rw [hy2 c hc hcr (by omega)]; simp [hne]
    · rcases c4 with ⟨a1, a2⟩ | ⟨a1, a2⟩
      · exact Or.inl a1
      · exact Or.inr a2
theorem dl_spec {fr to pr : Nat → Nat} {n m root x : Nat} {f pe pa sN bN : Nat → Nat} (h : TP fr to pr n m root x f pe pa sN bN) (hE : ∀ e, e < m → fr e ≠ to e) : ∀ (k w y : Nat), w < n → w ≠ root → (∀ e, e < m → y.testBit e = true → x.testBit e = true) → (∀ c, c < n → c ≠ root → f (pa w) < f c → y.testBit (pe c) = true) → n + 1 ≤ f w + k →
    (∀ t, t ∈ dl fr to pr m k y (pe w) (pa w) (f w - 1) (sN (pa w)) ↔ ∃ u, u < n ∧ u ≠ root ∧ de f pa w u = true ∧ t = (u, pe u, f u - 1, sN u)) ∧ ∀ g : Nat → Nat, ((dl fr to pr m k y (pe w) (pa w) (f w - 1) (sN (pa w))).map (fun t => g t.1)).sum = fb_sm (fun u => if de f pa w u = true then g u else 0) n := by
  intro k
  induction k with
  | zero => intro w y hw _ _ _ hk; have := (h.2.2.2.2.2.2 w hw).2; omega
  | succ k ih =>
    intro w y hw hwr hy1 hy2 hk
    obtain ⟨w1, w2, w3, w4, w5, w6, w7, w8⟩ := h.2.2.2.2.1 w hw hwr
    have hoth := other_end w4
    have hcel := cel_tree h hE hw hwr hy1 hy2
    have hyr1 : ∀ e, e < m → (y ^^^ 2 ^ pe w).testBit e = true → x.testBit e = true := by
      intro e he hb
      rw [tb_xor] at hb
      by_cases z : e = pe w
      · rw [z]; exact w3
      · exact hy1 e he (by simpa [z] using hb)
    have hyr2 : ∀ c', c' < n → c' ≠ root → f w < f c' → (y ^^^ 2 ^ pe w).testBit (pe c') = true := by
      intro c' hc' hcr' hf
      have hne : pe c' ≠ pe w := fun z => by
        have := pe_inj (fr := fr) (to := to) (pr := pr) (m := m) (x := x) (f := f) (pe := pe) (pa := pa) (fun v hv hr => ⟨(h.2.2.2.2.1 v hv hr).2.2.2.1, (h.2.2.2.2.1 v hv hr).2.2.2.2.2.1⟩) hc' hw hcr' hwr z
        rw [this] at hf; omega
      rw [tb_xor, hy2 c' hc' hcr' (by omega)]
      simp [hne]
    have hch : ∀ c, c < n → c ≠ root → pa c = w → _ := fun c hc hcr hpa => ih c (y ^^^ 2 ^ pe w) hc hcr hyr1 (by rw [hpa]; exact hyr2) (by have := (h.2.2.2.2.1 c hc hcr).2.2.2.2.2.1; rw [hpa] at this; omega)
    have hrec : ∀ c, c < n → c ≠ root → pa c = w → dl fr to pr m k (y ^^^ 2 ^ pe w) (pe c) w (f w - 1 + 1) (sN (pa w) + pr (pe w)) = dl fr to pr m k (y ^^^ 2 ^ pe w) (pe c) (pa c) (f c - 1) (sN (pa c)) := by
      intro c hc hcr hpa
      have hfc := (h.2.2.2.2.1 c hc hcr).2.2.2.2.2.1
      rw [hpa] at hfc ⊢
      rw [w7, show f w - 1 + 1 = f c - 1 by omega]
    have hdl : dl fr to pr m (k + 1) y (pe w) (pa w) (f w - 1) (sN (pa w)) = (w, pe w, f w - 1, sN w) :: (cel fr to m (y ^^^ 2 ^ pe w) w).flatMap (fun e' => dl fr to pr m k (y ^^^ 2 ^ pe w) e' w (f w - 1 + 1) (sN (pa w) + pr (pe w))) := by
      show (fr (pe w) + to (pe w) - pa w, pe w, f w - 1, sN (pa w) + pr (pe w)) :: _ = _
      rw [hoth, w7]
    rw [hdl]
    constructor
    · intro t
      rw [List.mem_cons, List.mem_flatMap]
      constructor
      · rintro (rfl | ⟨e', he', ht⟩)
        · exact ⟨w, hw, hwr, de_self w, rfl⟩
        · obtain ⟨c, hc, hcr, hpa, rfl⟩ := (hcel e').mp he'
          rw [hrec c hc hcr hpa] at ht
          obtain ⟨u, hu, hur, hd, rfl⟩ := ((hch c hc hcr hpa).1 t).mp ht
          have hune : u ≠ w := fun z => by rw [z, de_up h hc hcr hpa] at hd; cases hd
          exact ⟨u, hu, hur, (de_step h hw hu hune).mpr ⟨c, hc, hcr, hpa, hd⟩, rfl⟩
      · rintro ⟨u, hu, hur, hd, rfl⟩
        by_cases z : u = w
        · left; rw [z]
        · right
          obtain ⟨c, hc, hcr, hpa, hd'⟩ := (de_step h hw hu z).mp hd
          refine ⟨pe c, (hcel (pe c)).mpr ⟨c, hc, hcr, hpa, rfl⟩, ?_⟩
          rw [hrec c hc hcr hpa]
          exact ((hch c hc hcr hpa).1 _).mpr ⟨u, hu, hur, hd', rfl⟩
    · intro g
      rw [List.map_cons, List.sum_cons, sum_flat]
      have e1 : (cel fr to m (y ^^^ 2 ^ pe w) w).map (fun e' => ((dl fr to pr m k (y ^^^ 2 ^ pe w) e' w (f w - 1 + 1) (sN (pa w) + pr (pe w))).map (fun t => g t.1)).sum) = (cel fr to m (y ^^^ 2 ^ pe w) w).map (fun e' => fb_sm (fun u => if de f pa (fr e' + to e' - w) u = true then g u else 0) n) := by
        refine List.map_congr_left (fun e' he' => ?_)
        obtain ⟨c, hc, hcr, hpa, rfl⟩ := (hcel e').mp he'
        have hen := (h.2.2.2.2.1 c hc hcr).2.2.2.1
        rw [hpa] at hen
        rw [hrec c hc hcr hpa, (hch c hc hcr hpa).2 g, other_end hen]
      rw [e1]
      have e2 : ((cel fr to m (y ^^^ 2 ^ pe w) w).map (fun e' => fb_sm (fun u => if de f pa (fr e' + to e' - w) u = true then g u else 0) n)).sum = fb_sm (fun u => if de f pa w u = true ∧ u ≠ w then g u else 0) n := by
        unfold cel
        rw [sum_filter]
        have e3 : ∀ e, (if ((y ^^^ 2 ^ pe w).testBit e && (decide (fr e = w) || decide (to e = w))) = true then fb_sm (fun u => if de f pa (fr e + to e - w) u = true then g u else 0) n else 0) = fb_sm (fun u => if ((y ^^^ 2 ^ pe w).testBit e && (decide (fr e = w) || decide (to e = w))) = true ∧ de f pa (fr e + to e - w) u = true then g u else 0) n := by
          intro e
          by_cases z : ((y ^^^ 2 ^ pe w).testBit e && (decide (fr e = w) || decide (to e = w))) = true
          · rw [if_pos z]; exact fb_sm_cong (fun u _ => by simp only [z, true_and])
          · rw [if_neg z]; exact (fb_sm_none (fun u _ => by rw [if_neg (fun y => z y.1)])).symm
        rw [fb_sm_cong (fun e _ => e3 e), fb_sm_swap]
        refine fb_sm_cong (fun u hu => ?_)
        have hmem : ∀ e, e < m → ((((y ^^^ 2 ^ pe w).testBit e && (decide (fr e = w) || decide (to e = w))) = true) ↔ ∃ c, c < n ∧ c ≠ root ∧ pa c = w ∧ pe c = e) := by
          intro e he
          rw [← hcel e]
          unfold cel
          rw [List.mem_filter, List.mem_range]
          exact ⟨fun z => ⟨he, z⟩, fun z => z.2⟩
        by_cases hd : de f pa w u = true ∧ u ≠ w
        · rw [if_pos hd]
          obtain ⟨c, hc, hcr, hpa, hd'⟩ := (de_step h hw hu hd.2).mp hd.1
          obtain ⟨c1, c2, c3, c4, c5, c6, c7, c8⟩ := h.2.2.2.2.1 c hc hcr
          rw [hpa] at c4
          rw [fb_sm_single (i := pe c) c1 (fun e he hne => ?_)]
          · rw [if_pos ⟨(hmem _ c1).mpr ⟨c, hc, hcr, hpa, rfl⟩, by rw [other_end c4]; exact hd'⟩]
          · refine if_neg (fun z => ?_)
            obtain ⟨c', hc', hcr', hpa', rfl⟩ := (hmem e he).mp z.1
            have hen' := (h.2.2.2.2.1 c' hc' hcr').2.2.2.1
            rw [hpa'] at hen'
            have z2 := z.2
            rw [other_end hen'] at z2
            exact hne (by rw [de_one h hc' hc hcr' hcr (hpa'.trans hpa.symm) z2 hd'])
        · rw [if_neg hd]
          refine fb_sm_none (fun e he => if_neg (fun z => hd ?_))
          obtain ⟨c', hc', hcr', hpa', rfl⟩ := (hmem e he).mp z.1
          have hen' := (h.2.2.2.2.1 c' hc' hcr').2.2.2.1
          rw [hpa'] at hen'
          have z2 := z.2
          rw [other_end hen'] at z2
          have hune : u ≠ w := fun y => by rw [y, de_up h hc' hcr' hpa'] at z2; cases z2
          exact ⟨(de_step h hw hu hune).mpr ⟨c', hc', hcr', hpa', z2⟩, hune⟩
      rw [e2]
      have e4 := fb_sm_upd (fun u => if de f pa w u = true then g u else 0) 0 hw
      have e5 : fb_sm (fun u => if de f pa w u = true ∧ u ≠ w then g u else 0) n = fb_sm (fun k => if k = w then 0 else if de f pa w k = true then g k else 0) n := fb_sm_cong (fun u _ => by
        by_cases z : u = w
        · rw [if_pos z, if_neg (fun y => y.2 z)]
        · rw [if_neg z]
          by_cases z2 : de f pa w u = true
          · rw [if_pos ⟨z2, z⟩, if_pos z2]
          · rw [if_neg (fun y => z2 y.1), if_neg z2])
      rw [if_pos (de_self w)] at e4
      show g w + _ = _
      omega
