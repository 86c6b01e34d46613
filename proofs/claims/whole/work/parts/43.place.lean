/-! the place of a tree in the class's list, and what the class measures of each -/
theorem cp_succ {T : List Nat} (h : T.Pairwise (· < ·)) (y : Nat) : T.countP (fun t => decide (t < y + 1)) = T.countP (fun t => decide (t < y)) + (if decide (y ∈ T) = true then 1 else 0) := by
  induction T with
  | nil => rfl
  | cons a T ih =>
    obtain ⟨h1, h2⟩ := List.pairwise_cons.mp h
    rw [List.countP_cons, List.countP_cons, ih h2]
    by_cases e : y = a
    · have hn : ¬ y ∈ T := fun z => absurd (h1 y z) (by omega)
      simp [e, show ¬ a ∈ T from e ▸ hn]
    · have : (y ∈ a :: T) ↔ y ∈ T := by simp [e]
      have h3 : decide (a < y + 1) = decide (a < y) := by
        rw [decide_eq_decide]; omega
      rw [h3]
      simp only [this]
      omega
theorem cp_word {T : List Nat} (h : T.Pairwise (· < ·)) (w : Nat) : ∀ b, T.countP (fun t => decide (t < w + b)) = T.countP (fun t => decide (t < w)) + fb_ct (fun b => decide (w + b ∈ T)) b := by
  intro b
  induction b with
  | zero => rfl
  | succ b ih =>
    rw [← Nat.add_assoc, cp_succ h, ih, fb_ct_succ]
    omega
theorem cp_at {T : List Nat} (h : T.Pairwise (· < ·)) {x : Nat} (hx : x ∈ T) : T.countP (fun t => decide (t < x)) < T.length ∧ T.getD (T.countP (fun t => decide (t < x))) 0 = x := by
  induction T with
  | nil => cases hx
  | cons a T ih =>
    obtain ⟨h1, h2⟩ := List.pairwise_cons.mp h
    rw [List.countP_cons]
    by_cases e : x = a
    · have : T.countP (fun t => decide (t < x)) = 0 := List.countP_eq_zero.mpr (fun t ht => by have := h1 t ht; simp; omega)
      rw [this, e]
      simp
    · have hxT : x ∈ T := by rcases List.mem_cons.mp hx with z | z; exact absurd z e; exact z
      have := h1 x hxT
      obtain ⟨g1, g2⟩ := ih h2 hxT
      rw [if_pos (by simp; omega)]
      exact ⟨by rw [List.length_cons]; omega, by rw [List.getD_cons_succ]; exact g2⟩
theorem TL_placeOf_ok {σ : St} {T : List Nat} (h : TLR σ T) (N : Nat) {x : Nat} (hx : x < 2 ^ 32) : TL_placeOf N (nI x) σ = some (if x ∈ T then nI (T.countP (fun t => decide (t < x))) else -1) := by
  obtain ⟨h1, h2, h3, h4, h5, h6, h7⟩ := h
  unfold TL_placeOf
  by_cases h14 : x < 2 ^ 14
  · rw [bnd_t (Bits_has_ok h3 N h14)]
    by_cases hm : x ∈ T
    · rw [if_pos (show decide (x ∈ T) = true from decide_eq_true hm), if_neg (by decide), sh6 (by omega), grd_t (inb_nI (by omega) (by decide)), bnd_t (Bits_less_ok h3 N h14), nI_clamp (by omega), h4 (x / 64) (by omega) ⟨x, hm, rfl⟩, nI_add, if_pos hm, ← cp_word h5, Nat.div_add_mod]
    · rw [if_neg (show ¬ decide (x ∈ T) = true by simpa using hm), if_pos rfl, if_neg hm]
  · rw [bnd_t (Bits_has_no σ N h14 hx), if_pos rfl, if_neg (fun hm => h14 (h6 x hm))]
section TPM
variable {n m root : Nat} {fr to pr dm : Nat → Nat}
theorem TP_tree (hw : WN n m root fr to pr dm) {x : Nat} (hx : x < 2 ^ m) (hp : pck m x + 1 = n) (ha : ac fr to m (fun v => v) x = true) : ∃ f pe pa sN bN : Nat → Nat, TP fr to pr n m root x f pe pa sN bN ∧ (∀ v, v < n → sN v ≤ 7000) ∧ (∀ v, v < n → v ≠ root → bN v < m) := by
  obtain ⟨hn2, hn8, hm, hroot, hE, hdm⟩ := hw
  let τ : St := (fun k => if k = 0 then nI n else if k = 1 then nI m else nI root, fun k e => if k = 0 then nI (fr e) else if k = 1 then nI (to e) else if k = 2 then nI (pr e) else if k = 6 then nI (dm e) else nI 0, fun _ _ => 0)
  have hx0 : NM τ n m root fr to pr (fun _ => 0) (fun _ => 0) dm := ⟨rfl, rfl, rfl, fun e _ => ⟨rfl, rfl, rfl, rfl⟩, fun e _ => rfl, fun v _ => rfl⟩
  have hE2 : ends fr to n m := fun e he => ⟨(hE e he).1, (hE e he).2.1⟩
  rcases M_isTree_ok hx0 hn8 (by omega) hm hroot hE2 (fun _ _ => Nat.zero_le _) (N := 20) (Nat.le_refl _) hx with ⟨-, q, -, hbj, hq⟩ | ⟨hno, -⟩
  · obtain ⟨pe, pa, sN, bN, h1, h2, h3⟩ := TP_of hroot hm hn8 (fun e he => (hE e he).2.2.2) hbj (fun v hv => (hq v hv).1) (fun v hv => (hq v hv).2) hp
    exact ⟨q.1, pe, pa, sN, bN, h1, fun v hv => (h2 v hv).2, fun v hv hvr => (h3 v hv hvr).2⟩
  · exact absurd ⟨hp, fun _ _ _ => rfl, ha⟩ hno
theorem fb_sm_cap {g : Nat → Nat} {b : Nat} : ∀ {n : Nat}, (∀ v, v < n → g v ≤ b) → fb_sm g n ≤ n * b := by
  intro n
  induction n with
  | zero => intro _; exact Nat.zero_le _
  | succ n ih =>
    intro h
    rw [fb_sm_succ, Nat.succ_mul]
    exact Nat.add_le_add (ih (fun v hv => h v (by omega))) (h n (by omega))
theorem load_cap (hw : WN n m root fr to pr dm) {x : Nat} (hx : x < 2 ^ m) (hp : pck m x + 1 = n) (ha : ac fr to m (fun v => v) x = true) : ∀ e, e ∈ cel fr to m x root → fM dm (dl fr to pr m 7 x e root 1 0) < 2 ^ 31 := by
  obtain ⟨f, pe, pa, sN, bN, ht, -, -⟩ := TP_tree hw hx hp ha
  intro e he
  rw [(load_max ht (fun e he => (hw.2.2.2.2.1 e he).2.2.1) hw.2.1 dm).2 e he]
  have hn8 := hw.2.1
  have : fb_sm (fun v => if v ≠ root ∧ bN v = e then dm v else 0) n ≤ n * 99 := fb_sm_cap (fun v hv => by
    split
    · exact hw.2.2.2.2.2 v (by omega)
    · exact Nat.zero_le _)
  omega
end TPM
