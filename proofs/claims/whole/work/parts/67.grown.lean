/-! a line more: what was listed and measured stays -/
section GRN
variable {fr to pr fr' to' pr' : Nat → Nat} {m : Nat}
theorem cel_up (hE : ∀ e, e < m → fr' e = fr e ∧ to' e = to e ∧ pr' e = pr e) {y : Nat} (hy : y < 2 ^ m) (w : Nat) : cel fr' to' (m + 1) y w = cel fr to m y w := by
  unfold cel
  rw [List.range_succ, List.filter_append, List.filter_cons_of_neg (by rw [Nat.testBit_lt_two_pow hy, Bool.false_and]; decide), List.filter_nil, List.append_nil]
  refine List.filter_congr (fun e he => ?_)
  have h := hE e (List.mem_range.mp he)
  rw [h.1, h.2.1]
theorem cel_lt {y w e : Nat} (h : e ∈ cel fr to m y w) : e < m := List.mem_range.mp (List.mem_filter.mp h).1
theorem flat_congr {α β : Type} {L : List α} {f g : α → List β} (h : ∀ a, a ∈ L → f a = g a) : L.flatMap f = L.flatMap g := by
  rw [List.flatMap_def, List.flatMap_def, List.map_congr_left h]
theorem dl_up (hE : ∀ e, e < m → fr' e = fr e ∧ to' e = to e ∧ pr' e = pr e) : ∀ (h y e v d s : Nat), y < 2 ^ m → e < m → dl fr' to' pr' (m + 1) h y e v d s = dl fr to pr m h y e v d s := by
  intro h
  induction h with
  | zero => intro y e v d s _ _; rfl
  | succ h ih =>
    intro y e v d s hy he
    have hx : y ^^^ 2 ^ e < 2 ^ m := Nat.xor_lt_two_pow hy (Nat.pow_lt_pow_right (by decide) he)
    obtain ⟨e1, e2, e3⟩ := hE e he
    show (fr' e + to' e - v, e, d, s + pr' e) :: (cel fr' to' (m + 1) (y ^^^ 2 ^ e) (fr' e + to' e - v)).flatMap (fun e' => dl fr' to' pr' (m + 1) h (y ^^^ 2 ^ e) e' (fr' e + to' e - v) (d + 1) (s + pr' e)) = (fr e + to e - v, e, d, s + pr e) :: (cel fr to m (y ^^^ 2 ^ e) (fr e + to e - v)).flatMap (fun e' => dl fr to pr m h (y ^^^ 2 ^ e) e' (fr e + to e - v) (d + 1) (s + pr e))
    rw [e1, e2, e3, cel_up hE hx]
    congr 1
    exact flat_congr (fun e' he' => ih _ _ _ _ _ hx (cel_lt he'))
theorem dl_lt : ∀ (h y e v d s : Nat), e < m → ∀ t, t ∈ dl fr to pr m h y e v d s → t.2.1 < m := by
  intro h
  induction h with
  | zero => intro y e v d s _ t ht; cases ht
  | succ h ih =>
    intro y e v d s he t ht
    rcases List.mem_cons.mp ht with z | z
    · rw [z]; exact he
    · obtain ⟨e', he', ht'⟩ := List.mem_flatMap.mp z
      exact ih _ _ _ _ _ (cel_lt he') t ht'
theorem rW_up (hE : ∀ e, e < m → fr' e = fr e ∧ to' e = to e ∧ pr' e = pr e) (root : Nat) {x : Nat} (hx : x < 2 ^ m) : rW fr' to' pr' (m + 1) root x = rW fr to pr m root x := by
  unfold rW
  rw [cel_up hE hx]
  exact flat_congr (fun e he => dl_up hE _ _ _ _ _ _ hx (cel_lt he))
theorem mP_up (hE : ∀ e, e < m → fr' e = fr e ∧ to' e = to e ∧ pr' e = pr e) (root : Nat) {x : Nat} (hx : x < 2 ^ m) : mP fr' to' pr' (m + 1) root x = mP fr to pr m root x := by
  unfold mP fP
  rw [rW_up hE root hx]
  congr 2
  refine List.map_congr_left (fun t ht => ?_)
  obtain ⟨e, he, hte⟩ := List.mem_flatMap.mp ht
  exact (hE _ (dl_lt _ _ _ _ _ _ (cel_lt he) t hte)).2.2
theorem mD_up (hE : ∀ e, e < m → fr' e = fr e ∧ to' e = to e ∧ pr' e = pr e) (root : Nat) {x : Nat} (hx : x < 2 ^ m) : mD fr' to' pr' (m + 1) root x = mD fr to pr m root x := by
  unfold mD
  rw [rW_up hE root hx]
theorem mW_up (hE : ∀ e, e < m → fr' e = fr e ∧ to' e = to e ∧ pr' e = pr e) (root : Nat) {x : Nat} (hx : x < 2 ^ m) : mW fr' to' pr' (m + 1) root x = mW fr to pr m root x := by
  unfold mW
  rw [rW_up hE root hx]
theorem mL_up (hE : ∀ e, e < m → fr' e = fr e ∧ to' e = to e ∧ pr' e = pr e) (dm : Nat → Nat) (root : Nat) {x : Nat} (hx : x < 2 ^ m) : mL fr' to' pr' dm (m + 1) root x = mL fr to pr dm m root x := by
  unfold mL
  rw [cel_up hE hx]
  congr 1
  refine List.map_congr_left (fun e he => ?_)
  rw [dl_up hE _ _ _ _ _ _ hx (cel_lt he)]
theorem tl_up (hE : ∀ e, e < m → fr' e = fr e ∧ to' e = to e ∧ pr' e = pr e) : ∀ (L : Nat), L ≤ m → ∀ (c : Nat → Nat) (k s : Nat), tl fr' to' L c k s = tl fr to L c k s := by
  intro L
  induction L with
  | zero => intro _ c k s; rfl
  | succ L ih =>
    intro hL c k s
    obtain ⟨e1, e2, -⟩ := hE L (by omega)
    show tl fr' to' L c k s ++ (if c (fr' L) = c (to' L) then [] else tl fr' to' L (mg c (fr' L) (to' L)) (k - 1) (s + 2 ^ L)) = tl fr to L c k s ++ (if c (fr L) = c (to L) then [] else tl fr to L (mg c (fr L) (to L)) (k - 1) (s + 2 ^ L))
    rw [ih (by omega), ih (by omega), e1, e2]
theorem pre_up {σ σ' : St} {dm : Nat → Nat} {n root : Nat} (hE : ∀ e, e < m → fr' e = fr e ∧ to' e = to e ∧ pr' e = pr e) (hp : XPre σ fr to pr dm n m root) (h15 : σ'.1 15 = σ.1 15) (h16 : σ'.1 16 = σ.1 16) (h17 : σ'.1 17 = σ.1 17) (ha : ∀ k, 6 ≤ k → k ≤ 11 → σ'.2.1 k = σ.2.1 k) (hL : σ'.2.2 = σ.2.2) : XPre σ' fr' to' pr' dm n (m + 1) root := by
  obtain ⟨L, K, a, b, ⟨a1, a2, a3, a4, a5⟩, d, e, f⟩ := hp
  have ht := tl_up hE L a (fun v => v) n 0
  refine ⟨L, K, by omega, by rw [h16]; exact b, ?_, by rw [ht]; exact d, by rw [h17]; exact e, fun i hi => ?_⟩
  · rw [ht]
    exact ⟨by rw [h15]; exact a1, by rw [ha 6 (by decide) (by decide)]; exact a2, fun w hw => by rw [hL]; exact a3 w hw, by rw [ha 11 (by decide) (by decide)]; exact a4, a5⟩
  · have hx : (tl fr to L (fun v => v) n 0).getD i 0 < 2 ^ m := by
      have := (tl_range (getD_mem (show i < (tl fr to L (fun v => v) n 0).length by omega))).2
      have : 2 ^ L ≤ 2 ^ m := Nat.pow_le_pow_right (by decide) a
      omega
    rw [ht, ha 7 (by decide) (by decide), ha 8 (by decide) (by decide), ha 9 (by decide) (by decide), ha 10 (by decide) (by decide), mP_up hE root hx, mD_up hE root hx, mL_up hE dm root hx, mW_up hE root hx]
    exact f i hi
end GRN
