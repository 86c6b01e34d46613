/-! what is measured of a tree, both ways -/
theorem child_sum {fr to pr : Nat → Nat} {n m root x : Nat} {f pe pa sN bN : Nat → Nat} (h : TP fr to pr n m root x f pe pa sN bN) {w : Nat} (hw : w < n) {P : Nat → Bool} (hP : ∀ e, e < m → (P e = true ↔ ∃ c, c < n ∧ c ≠ root ∧ pa c = w ∧ pe c = e)) (g : Nat → Nat) : (((List.range m).filter P).map (fun e => fb_sm (fun u => if de f pa (fr e + to e - w) u = true then g u else 0) n)).sum = fb_sm (fun u => if de f pa w u = true ∧ u ≠ w then g u else 0) n := by
  rw [sum_filter]
  have e3 : ∀ e, (if P e = true then fb_sm (fun u => if de f pa (fr e + to e - w) u = true then g u else 0) n else 0) = fb_sm (fun u => if P e = true ∧ de f pa (fr e + to e - w) u = true then g u else 0) n := by
    intro e
    by_cases z : P e = true
    · rw [if_pos z]; exact fb_sm_cong (fun u _ => by simp only [z, true_and])
    · rw [if_neg z]; exact (fb_sm_none (fun u _ => by rw [if_neg (fun y => z y.1)])).symm
  rw [fb_sm_cong (fun e _ => e3 e), fb_sm_swap]
  refine fb_sm_cong (fun u hu => ?_)
  by_cases hd : de f pa w u = true ∧ u ≠ w
  · rw [if_pos hd]
    obtain ⟨c, hc, hcr, hpa, hd'⟩ := (de_step h hw hu hd.2).mp hd.1
    obtain ⟨c1, c2, c3, c4, c5, c6, c7, c8⟩ := h.2.2.2.2.1 c hc hcr
    rw [hpa] at c4
    rw [fb_sm_single (i := pe c) c1 (fun e he hne => ?_)]
    · rw [if_pos ⟨(hP _ c1).mpr ⟨c, hc, hcr, hpa, rfl⟩, by rw [other_end c4]; exact hd'⟩]
    · refine if_neg (fun z => ?_)
      obtain ⟨c', hc', hcr', hpa', rfl⟩ := (hP e he).mp z.1
      have hen' := (h.2.2.2.2.1 c' hc' hcr').2.2.2.1
      rw [hpa'] at hen'
      have z2 := z.2
      rw [other_end hen'] at z2
      exact hne (by rw [de_one h hc' hc hcr' hcr (hpa'.trans hpa.symm) z2 hd'])
  · rw [if_neg hd]
    refine fb_sm_none (fun e he => if_neg (fun z => hd ?_))
    obtain ⟨c', hc', hcr', hpa', rfl⟩ := (hP e he).mp z.1
    have hen' := (h.2.2.2.2.1 c' hc' hcr').2.2.2.1
    rw [hpa'] at hen'
    have z2 := z.2
    rw [other_end hen'] at z2
    have hune : u ≠ w := fun y => by rw [y, de_up h hc' hcr' hpa'] at z2; cases z2
    exact ⟨(de_step h hw hu hune).mpr ⟨c', hc', hcr', hpa', z2⟩, hune⟩
section TR
variable {fr to pr : Nat → Nat} {n m root x : Nat} {f pe pa sN bN : Nat → Nat}
theorem f_one (h : TP fr to pr n m root x f pe pa sN bN) {v : Nat} (hv : v < n) (e : f v = 1) : v = root := by
  refine Classical.byContradiction fun z => ?_
  obtain ⟨-, -, -, -, c5, c6, -⟩ := h.2.2.2.2.1 v hv z
  omega
theorem de_root (h : TP fr to pr n m root x f pe pa sN bN) {u : Nat} (hu : u < n) : de f pa root u = true := by
  have hf := (h.2.2.2.2.2.2 u hu).1
  obtain ⟨a1, a2⟩ := anc_f h (f u - 1) u hu (by omega)
  rw [de_iff, h.2.1]
  exact ⟨by omega, f_one h a1 (by omega)⟩
theorem cel_root (h : TP fr to pr n m root x f pe pa sN bN) {e : Nat} (he : e < m) : (x.testBit e && (decide (fr e = root) || decide (to e = root))) = true ↔ ∃ c, c < n ∧ c ≠ root ∧ pa c = root ∧ pe c = e := by
  rw [Bool.and_eq_true, Bool.or_eq_true, decide_eq_true_eq, decide_eq_true_eq]
  constructor
  · rintro ⟨hb, hi⟩
    obtain ⟨c, hc, hcr, hce⟩ := h.2.2.2.2.2.1 e he hb
    refine ⟨c, hc, hcr, ?_, hce⟩
    have hen := (h.2.2.2.2.1 c hc hcr).2.2.2.1
    rw [hce] at hen
    rcases hen with ⟨a1, a2⟩ | ⟨a1, a2⟩ <;> rcases hi with b | b
    · rw [← a1, b]
    · exact absurd (by rw [← a2, b]) hcr
    · exact absurd (by rw [← a1, b]) hcr
    · rw [← a2, b]
  · rintro ⟨c, hc, hcr, hpa, rfl⟩
    obtain ⟨c1, c2, c3, c4, -⟩ := h.2.2.2.2.1 c hc hcr
    rw [hpa] at c4
    refine ⟨c3, ?_⟩
    rcases c4 with ⟨a1, a2⟩ | ⟨a1, a2⟩
    · exact Or.inl a1
    · exact Or.inr a2
theorem dl_root (h : TP fr to pr n m root x f pe pa sN bN) (hE : ∀ e, e < m → fr e ≠ to e) (hn : n ≤ 8) {c : Nat} (hc : c < n) (hcr : c ≠ root) (hpa : pa c = root) : (∀ t, t ∈ dl fr to pr m 7 x (pe c) root 1 0 ↔ ∃ u, u < n ∧ u ≠ root ∧ de f pa c u = true ∧ t = (u, pe u, f u - 1, sN u)) ∧ ∀ g : Nat → Nat, ((dl fr to pr m 7 x (pe c) root 1 0).map (fun t => g t.1)).sum = fb_sm (fun u => if de f pa c u = true then g u else 0) n := by
  have hf : f c = 2 := by have := (h.2.2.2.2.1 c hc hcr).2.2.2.2.2.1; rw [hpa, h.2.1] at this; exact this
  have hs := dl_spec h hE 7 c x hc hcr (fun e _ z => z) (fun c' hc' hcr' _ => (h.2.2.2.2.1 c' hc' hcr').2.2.1) (by omega)
  rw [hpa, hf, h.2.2.2.1] at hs
  exact hs
theorem rW_mem (h : TP fr to pr n m root x f pe pa sN bN) (hE : ∀ e, e < m → fr e ≠ to e) (hn : n ≤ 8) (t : Nat × Nat × Nat × Nat) : t ∈ rW fr to pr m root x ↔ ∃ u, u < n ∧ u ≠ root ∧ t = (u, pe u, f u - 1, sN u) := by
  unfold rW
  rw [List.mem_flatMap]
  constructor
  · rintro ⟨e, he, ht⟩
    have he1 := List.mem_filter.mp he
    obtain ⟨c, hc, hcr, hpa, rfl⟩ := (cel_root h (List.mem_range.mp he1.1)).mp he1.2
    obtain ⟨u, hu, hur, -, rfl⟩ := ((dl_root h hE hn hc hcr hpa).1 t).mp ht
    exact ⟨u, hu, hur, rfl⟩
  · rintro ⟨u, hu, hur, rfl⟩
    obtain ⟨c, hc, hcr, hpa, hd⟩ := (de_step h h.1 hu hur).mp (de_root h hu)
    have c1 := (h.2.2.2.2.1 c hc hcr).1
    refine ⟨pe c, List.mem_filter.mpr ⟨List.mem_range.mpr c1, (cel_root h c1).mpr ⟨c, hc, hcr, hpa, rfl⟩⟩, ?_⟩
    exact ((dl_root h hE hn hc hcr hpa).1 _).mpr ⟨u, hu, hur, hd, rfl⟩
theorem rW_sum (h : TP fr to pr n m root x f pe pa sN bN) (hE : ∀ e, e < m → fr e ≠ to e) (hn : n ≤ 8) (g : Nat → Nat) : ((rW fr to pr m root x).map (fun t => g t.1)).sum = fb_sm (fun u => if u ≠ root then g u else 0) n := by
  unfold rW
  rw [sum_flat]
  have e1 : (cel fr to m x root).map (fun e => ((dl fr to pr m 7 x e root 1 0).map (fun t => g t.1)).sum) = (cel fr to m x root).map (fun e => fb_sm (fun u => if de f pa (fr e + to e - root) u = true then g u else 0) n) := by
    refine List.map_congr_left (fun e he => ?_)
    have he1 := List.mem_filter.mp he
    obtain ⟨c, hc, hcr, hpa, rfl⟩ := (cel_root h (List.mem_range.mp he1.1)).mp he1.2
    have hen := (h.2.2.2.2.1 c hc hcr).2.2.2.1
    rw [hpa] at hen
    rw [(dl_root h hE hn hc hcr hpa).2 g, other_end hen]
  rw [e1]
  unfold cel
  rw [child_sum h h.1 (fun e he => cel_root h he) g]
  refine fb_sm_cong (fun u hu => ?_)
  by_cases z : u = root
  · rw [if_neg (fun y => y.2 z), if_neg (fun y => y z)]
  · rw [if_pos ⟨de_root h hu, z⟩, if_pos z]
/-- the price of a tree is that of its lines -/
theorem price_sum (h : TP fr to pr n m root x f pe pa sN bN) (hE : ∀ e, e < m → fr e ≠ to e) (hn : n ≤ 8) : fP pr 0 (rW fr to pr m root x) = fb_sm (fun e => if x.testBit e = true then pr e else 0) m := by
  unfold fP
  rw [Nat.zero_add]
  have e1 : (rW fr to pr m root x).map (fun t => pr t.2.1) = (rW fr to pr m root x).map (fun t => (fun u => pr (pe u)) t.1) := List.map_congr_left (fun t ht => by
    obtain ⟨u, -, -, rfl⟩ := (rW_mem h hE hn t).mp ht
    rfl)
  rw [e1, rW_sum h hE hn (fun u => pr (pe u))]
  have e2 : ∀ e, e < m → (if x.testBit e = true then pr e else 0) = fb_sm (fun u => if u ≠ root ∧ pe u = e then pr e else 0) n := by
    intro e he
    by_cases z : x.testBit e = true
    · rw [if_pos z]
      obtain ⟨v, hv, hvr, hve⟩ := h.2.2.2.2.2.1 e he z
      rw [fb_sm_single hv (fun u hu hne => if_neg (fun y => hne ?_)), if_pos ⟨hvr, hve⟩]
      exact pe_inj (fr := fr) (to := to) (pr := pr) (m := m) (x := x) (f := f) (pe := pe) (pa := pa) (fun v hv hr => ⟨(h.2.2.2.2.1 v hv hr).2.2.2.1, (h.2.2.2.2.1 v hv hr).2.2.2.2.2.1⟩) hu hv y.1 hvr (y.2.trans hve.symm)
    · rw [if_neg z]
      refine (fb_sm_none (fun u hu => if_neg (fun y => z ?_))).symm
      rw [← y.2]
      exact (h.2.2.2.2.1 u hu y.1).2.2.1
  rw [fb_sm_cong e2, fb_sm_swap]
  refine fb_sm_cong (fun u hu => ?_)
  by_cases z : u = root
  · rw [if_neg (fun y => y z)]
    exact (fb_sm_none (fun e _ => if_neg (fun y => y.1 z))).symm
  · rw [if_pos z, fb_sm_single (i := pe u) (h.2.2.2.2.1 u hu z).1 (fun e _ hne => if_neg (fun y => hne y.2.symm)), if_pos ⟨z, rfl⟩]
/-- greatest of a row -/
def fmx (g : Nat → Nat) (n : Nat) : Nat := ((List.range n).map g).foldl max 0
theorem foldl_max_ge {L : List Nat} : ∀ {d : Nat}, d ≤ L.foldl max d ∧ ∀ a, a ∈ L → a ≤ L.foldl max d := by
  induction L with
  | nil => intro d; exact ⟨Nat.le_refl _, fun a h => by cases h⟩
  | cons b L ih =>
    intro d
    have h := @ih (max d b)
    refine ⟨Nat.le_trans (Nat.le_max_left _ _) h.1, fun a ha => ?_⟩
    rcases List.mem_cons.mp ha with rfl | ha
    · exact Nat.le_trans (Nat.le_max_right _ _) h.1
    · exact h.2 a ha
theorem lmax_eq {L R : List Nat} (h1 : ∀ a, a ∈ L → a = 0 ∨ ∃ b, b ∈ R ∧ a ≤ b) (h2 : ∀ b, b ∈ R → b = 0 ∨ ∃ a, a ∈ L ∧ b ≤ a) : L.foldl max 0 = R.foldl max 0 := by
  refine Nat.le_antisymm (foldl_max_le (Nat.zero_le _) (fun a ha => ?_)) (foldl_max_le (Nat.zero_le _) (fun b hb => ?_))
  · rcases h1 a ha with z | ⟨b, hb, z⟩
    · omega
    · exact Nat.le_trans z (foldl_max_ge.2 b hb)
  · rcases h2 b hb with z | ⟨a, ha, z⟩
    · omega
    · exact Nat.le_trans z (foldl_max_ge.2 a ha)
theorem depth_max (h : TP fr to pr n m root x f pe pa sN bN) (hE : ∀ e, e < m → fr e ≠ to e) (hn : n ≤ 8) : fD 0 (rW fr to pr m root x) = fmx (fun v => f v - 1) n := by
  unfold fD fmx
  refine lmax_eq (fun a ha => ?_) (fun b hb => ?_)
  · obtain ⟨t, ht, rfl⟩ := List.mem_map.mp ha
    obtain ⟨u, hu, -, rfl⟩ := (rW_mem h hE hn t).mp ht
    exact Or.inr ⟨_, List.mem_map.mpr ⟨u, List.mem_range.mpr hu, rfl⟩, Nat.le_refl _⟩
  · obtain ⟨v, hv, rfl⟩ := List.mem_map.mp hb
    by_cases z : v = root
    · left; rw [z, h.2.1]
    · exact Or.inr ⟨_, List.mem_map.mpr ⟨_, (rW_mem h hE hn _).mpr ⟨v, List.mem_range.mp hv, z, rfl⟩, rfl⟩, Nat.le_refl _⟩
theorem way_max (h : TP fr to pr n m root x f pe pa sN bN) (hE : ∀ e, e < m → fr e ≠ to e) (hn : n ≤ 8) : fW 0 (rW fr to pr m root x) = fmx sN n := by
  unfold fW fmx
  refine lmax_eq (fun a ha => ?_) (fun b hb => ?_)
  · obtain ⟨t, ht, rfl⟩ := List.mem_map.mp ha
    obtain ⟨u, hu, -, rfl⟩ := (rW_mem h hE hn t).mp ht
    exact Or.inr ⟨_, List.mem_map.mpr ⟨u, List.mem_range.mpr hu, rfl⟩, Nat.le_refl _⟩
  · obtain ⟨v, hv, rfl⟩ := List.mem_map.mp hb
    by_cases z : v = root
    · left; rw [z, h.2.2.2.1]
    · exact Or.inr ⟨_, List.mem_map.mpr ⟨_, (rW_mem h hE hn _).mpr ⟨v, List.mem_range.mp hv, z, rfl⟩, rfl⟩, Nat.le_refl _⟩
theorem anc_pa (pa : Nat → Nat) : ∀ (k u : Nat), anc pa (k + 1) u = anc pa k (pa u) := by
  intro k
  induction k with
  | zero => intro u; rfl
  | succ k ih => intro u; show pa (anc pa (k + 1) u) = pa (anc pa k (pa u)); rw [ih]
theorem branch_de (h : TP fr to pr n m root x f pe pa sN bN) {c : Nat} (hc : c < n) (hcr : c ≠ root) (hpa : pa c = root) : ∀ (d u : Nat), u < n → u ≠ root → f u = d → (de f pa c u = true ↔ bN u = pe c) := by
  have hf : f c = 2 := by have := (h.2.2.2.2.1 c hc hcr).2.2.2.2.2.1; rw [hpa, h.2.1] at this; exact this
  intro d
  induction d with
  | zero => intro u hu _ e; exact absurd e (h.2.2.2.2.2.2 u hu).1
  | succ d ih =>
    intro u hu hur e
    obtain ⟨u1, u2, u3, u4, u5, u6, u7, u8⟩ := h.2.2.2.2.1 u hu hur
    by_cases z : pa u = root
    · rw [u8, if_pos z, de_iff, hf]
      have hfu : f u = 2 := by rw [u6, z, h.2.1]
      rw [hfu]
      constructor
      · rintro ⟨-, q⟩
        rw [show u = c from q]
      · intro q
        refine ⟨Nat.le_refl _, ?_⟩
        exact pe_inj (fr := fr) (to := to) (pr := pr) (m := m) (x := x) (f := f) (pe := pe) (pa := pa) (fun v hv hr => ⟨(h.2.2.2.2.1 v hv hr).2.2.2.1, (h.2.2.2.2.1 v hv hr).2.2.2.2.2.1⟩) hu hc hur hcr q
    · rw [u8, if_neg z, ← ih (pa u) u2 z (by omega), de_iff, de_iff, hf]
      have hpf : f (pa u) ≠ 1 := fun q => z (f_one h u2 q)
      have e1 : f u - 2 = f (pa u) - 2 + 1 := by omega
      rw [e1, anc_pa]
      constructor
      · rintro ⟨-, q⟩; exact ⟨by omega, q⟩
      · rintro ⟨-, q⟩; exact ⟨by omega, q⟩
theorem load_max (h : TP fr to pr n m root x f pe pa sN bN) (hE : ∀ e, e < m → fr e ≠ to e) (hn : n ≤ 8) (dm : Nat → Nat) : mL fr to pr dm m root x = fmx (fun e => fb_sm (fun v => if v ≠ root ∧ bN v = e then dm v else 0) n) m ∧ ∀ e, e ∈ cel fr to m x root → fM dm (dl fr to pr m 7 x e root 1 0) = fb_sm (fun v => if v ≠ root ∧ bN v = e then dm v else 0) n := by
  have key : ∀ e, e ∈ cel fr to m x root → fM dm (dl fr to pr m 7 x e root 1 0) = fb_sm (fun v => if v ≠ root ∧ bN v = e then dm v else 0) n := by
    intro e he
    have he1 := List.mem_filter.mp he
    obtain ⟨c, hc, hcr, hpa, rfl⟩ := (cel_root h (List.mem_range.mp he1.1)).mp he1.2
    unfold fM
    rw [(dl_root h hE hn hc hcr hpa).2 dm]
    refine fb_sm_cong (fun v hv => ?_)
    by_cases z : v = root
    · have : de f pa c v = false := by rw [z]; exact de_up h hc hcr hpa
      rw [if_neg (by rw [this]; decide), if_neg (fun y => y.1 z)]
    · by_cases y : de f pa c v = true
      · rw [if_pos y, if_pos ⟨z, (branch_de h hc hcr hpa _ v hv z rfl).mp y⟩]
      · rw [if_neg y, if_neg (fun q => y ((branch_de h hc hcr hpa _ v hv z rfl).mpr q.2))]
  refine ⟨?_, key⟩
  unfold mL fmx
  refine lmax_eq (fun a ha => ?_) (fun b hb => ?_)
  · obtain ⟨e, he, rfl⟩ := List.mem_map.mp ha
    rw [key e he]
    exact Or.inr ⟨_, List.mem_map.mpr ⟨e, (List.mem_filter.mp he).1, rfl⟩, Nat.le_refl _⟩
  · obtain ⟨e, he, rfl⟩ := List.mem_map.mp hb
    have he := List.mem_range.mp he
    by_cases z : ∃ c, c < n ∧ c ≠ root ∧ pa c = root ∧ pe c = e
    · have hm : e ∈ cel fr to m x root := List.mem_filter.mpr ⟨List.mem_range.mpr he, (cel_root h he).mpr z⟩
      exact Or.inr ⟨_, List.mem_map.mpr ⟨e, hm, rfl⟩, by rw [key e hm]; exact Nat.le_refl _⟩
    · left
      refine fb_sm_none (fun v hv => if_neg (fun y => z ?_))
      obtain ⟨c, hc, hcr, hpa, hd⟩ := (de_step h h.1 hv y.1).mp (de_root h hv)
      exact ⟨c, hc, hcr, hpa, ((branch_de h hc hcr hpa _ v hv y.1 rfl).mp hd).symm.trans y.2⟩
end TR
