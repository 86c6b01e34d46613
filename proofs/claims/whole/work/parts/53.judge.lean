/-! the class judges its trees, or has -/
section JDG
variable {n m root : Nat} {fr to pr dm co dg cu : Nat → Nat} {dep lod rf rt wy : Nat}
theorem tl_pre (fr to : Nat → Nat) (c : Nat → Nat) (k s : Nat) {j : Nat} : ∀ {b : Nat}, j ≤ b → ∃ D, tl fr to b c k s = tl fr to j c k s ++ D := by
  intro b
  induction b with
  | zero => intro h; rw [Nat.le_zero.mp h]; exact ⟨[], (List.append_nil _).symm⟩
  | succ b ih =>
    intro h
    by_cases e : j = b + 1
    · rw [e]; exact ⟨[], (List.append_nil _).symm⟩
    · obtain ⟨D, hD⟩ := ih (by omega)
      refine ⟨D ++ (if c (fr b) = c (to b) then [] else tl fr to b (mg c (fr b) (to b)) (k - 1) (s + 2 ^ b)), ?_⟩
      show tl fr to b c k s ++ _ = _
      rw [hD, List.append_assoc]
/-- the list and the measures, as far as they go -/
def XPre (σ : St) (fr to pr dm : Nat → Nat) (n m root : Nat) : Prop := ∃ L K, L ≤ m ∧ σ.1 16 = nI L ∧ TLR σ (tl fr to L (fun v => v) n 0) ∧ K ≤ (tl fr to L (fun v => v) n 0).length ∧ σ.1 17 = nI K ∧ MSR σ fr to pr dm m root (tl fr to L (fun v => v) n 0) K
def XGood (fr to pr dm co dg cu : Nat → Nat) (n m root dep lod rf rt wy : Nat) : List Nat := plT (tl fr to m (fun v => v) n 0) (ucb m cu) (bvl fr to pr dm co dg n m root dep lod rf rt wy) (tl fr to m (fun v => v) n 0).length
/-- all that the class has judged, but for the order and the route -/
def XDone (σ : St) (fr to pr dm co dg cu : Nat → Nat) (n m root dep lod rf rt wy : Nat) : Prop := σ.1 16 = nI m ∧ TLR σ (tl fr to m (fun v => v) n 0) ∧ σ.1 17 = nI (tl fr to m (fun v => v) n 0).length ∧ MSR σ fr to pr dm m root (tl fr to m (fun v => v) n 0) (tl fr to m (fun v => v) n 0).length ∧ GTR σ (tl fr to m (fun v => v) n 0) (ucb m cu) (bvl fr to pr dm co dg n m root dep lod rf rt wy) (tl fr to m (fun v => v) n 0).length
theorem tl_isT {x : Nat} (h : x ∈ tl fr to m (fun v => v) n 0) : isT fr to n m x := by
  obtain ⟨y, h1, h2, h3, h4⟩ := (tl_mem m _ n 0 x).mp h
  have e : x = y := by omega
  subst e
  exact ⟨h1, h4, h3⟩
theorem LT_judge_ok {σ : St} (hw : WN n m root fr to pr dm) (hx : NX σ n m root fr to pr dm) (hl : LX σ m co dg dep lod rf rt wy) (hwl : WL dg dep lod rf rt wy) (hco : ∀ e, e < m → co e ≤ 1) (hcut : σ.1 4 = nI (cmk m cu)) {N : Nat} (hN : 1300 ≤ N) (hp : XPre σ fr to pr dm n m root) (h20 : σ.1 20 = 0 ∨ (σ.1 20 = 1 ∧ XDone σ fr to pr dm co dg cu n m root dep lod rf rt wy)) : ∃ σ', LT_judge N σ = some σ' ∧ XDone σ' fr to pr dm co dg cu n m root dep lod rf rt wy ∧ σ'.1 20 = 1 ∧ (∀ k, k < 11 → σ'.1 k = σ.1 k) ∧ (∀ k, k < 6 → σ'.2.1 k = σ.2.1 k) ∧ ((σ'.1 21 = 0 ∧ σ'.1 23 = -1) ∨ (σ.1 20 = 1 ∧ σ' = σ)) := by
  unfold LT_judge
  rcases h20 with h20 | ⟨h20, hd⟩
  · rw [h20, if_pos rfl]
    obtain ⟨L, K, hL, h16, hT, hK, h17, hM⟩ := hp
    obtain ⟨σ1, a1, a2, a3, a4, a5, a6⟩ := TL_catchUp_ok hw (show 20 ≤ N by omega) hx hL h16 hT
    have i1 : ∀ k, k ≠ 15 → k ≠ 16 → σ1.1 k = σ.1 k := a4
    have hx1 : NX σ1 n m root fr to pr dm := by
      obtain ⟨x0, x1, x2, xe, xv⟩ := hx
      refine ⟨by rw [i1 0 (by decide) (by decide)]; exact x0, by rw [i1 1 (by decide) (by decide)]; exact x1, by rw [i1 2 (by decide) (by decide)]; exact x2, ?_, ?_⟩
      · rw [a5 2 (by decide) (by decide) (by decide), a5 3 (by decide) (by decide) (by decide), a5 4 (by decide) (by decide) (by decide)]; exact xe
      · rw [a5 0 (by decide) (by decide) (by decide), a5 1 (by decide) (by decide) (by decide)]; exact xv
    obtain ⟨D, hD⟩ := tl_pre fr to (fun v => v) n 0 hL
    have hM1 : MSR σ1 fr to pr dm m root (tl fr to m (fun v => v) n 0) K := by
      intro i hi
      rw [a5 7 (by decide) (by decide) (by decide), a5 8 (by decide) (by decide) (by decide), a5 9 (by decide) (by decide) (by decide), a5 10 (by decide) (by decide) (by decide)]
      have : (tl fr to m (fun v => v) n 0).getD i 0 = (tl fr to L (fun v => v) n 0).getD i 0 := by
        rw [hD, List.getD_eq_getElem?_getD, List.getD_eq_getElem?_getD, List.getElem?_append_left (by omega)]
      rw [this]
      exact hM i hi
    obtain ⟨σ2, b1, b2, b3⟩ := TL_measureAll_ok hw hN hx1 a2 (fun t ht => tl_isT ht) (K := K) (by rw [hD, List.length_append]; omega) (by rw [i1 17 (by decide) (by decide)]; exact h17) hM1
    have i2 : ∀ k, k ≠ 11 → k ≠ 12 → k ≠ 13 → k ≠ 14 → k ≠ 17 → (si σ2 17 (nI (tl fr to m (fun v => v) n 0).length)).1 k = σ1.1 k := fun k h1 h2 h3 h4 h5 => by rw [si_ne _ _ h5]; exact b2.1 k h1 h2 h3 h4
    have low2 : ∀ k, k < 11 → (si σ2 17 (nI (tl fr to m (fun v => v) n 0).length)).1 k = σ.1 k := fun k hk => by rw [i2 k (by omega) (by omega) (by omega) (by omega) (by omega)]; exact i1 k (by omega) (by omega)
    have arr2 : ∀ k, k < 6 → (si σ2 17 (nI (tl fr to m (fun v => v) n 0).length)).2.1 k = σ.2.1 k := fun k hk => (b2.2.1 k (by omega) (by omega) (by omega) (by omega)).trans (a5 k (by omega) (by omega) (by omega))
    have hx2 : NX (si σ2 17 (nI (tl fr to m (fun v => v) n 0).length)) n m root fr to pr dm := by
      obtain ⟨x0, x1, x2, xe, xv⟩ := hx
      refine ⟨by rw [low2 0 (by decide)]; exact x0, by rw [low2 1 (by decide)]; exact x1, by rw [low2 2 (by decide)]; exact x2, ?_, ?_⟩
      · rw [arr2 2 (by decide), arr2 3 (by decide), arr2 4 (by decide)]; exact xe
      · rw [arr2 0 (by decide), arr2 1 (by decide)]; exact xv
    have hl2 : LX (si σ2 17 (nI (tl fr to m (fun v => v) n 0).length)) m co dg dep lod rf rt wy := by
      obtain ⟨l1, l2, l3, l4, l5, l6, l7, l8⟩ := hl
      exact ⟨by rw [low2 3 (by decide)]; exact l1, by rw [low2 5 (by decide)]; exact l2, by rw [low2 6 (by decide)]; exact l3, by rw [low2 7 (by decide)]; exact l4, by rw [low2 8 (by decide)]; exact l5, by rw [low2 9 (by decide)]; exact l6, by rw [low2 10 (by decide)]; exact l7, by rw [arr2 5 (by decide)]; exact l8⟩
    have hT2 : TLR (si σ2 17 (nI (tl fr to m (fun v => v) n 0).length)) (tl fr to m (fun v => v) n 0) := by
      obtain ⟨t1, t2⟩ := b2.list a2
      exact ⟨by rw [si_ne _ _ (by decide)]; exact t1, t2⟩
    obtain ⟨σ3, c1, c2, c3, c4, c5⟩ := GT_find_ok hw hx2 hl2 hwl hco (by rw [low2 4 (by decide)]; exact hcut) hT2 (fun t ht => tl_isT ht) b3 hN
    rw [bnd_t a1, bnd_t b1, bnd_t c1]
    unfold Rt_forget lt
    have low3 : ∀ k, k < 18 → (si σ3 23 (-1)).1 k = (si σ2 17 (nI (tl fr to m (fun v => v) n 0).length)).1 k := fun k hk => by rw [si_ne _ _ (by omega)]; exact c3.1 k (by omega) (by omega) (by omega) (by omega) (by omega)
    refine ⟨si σ3 23 (-1), rfl, ⟨?_, ?_, ?_, ?_, ?_⟩, ?_, ?_, ?_, Or.inl ⟨?_, si_same _ _ _⟩⟩
    · rw [low3 16 (by decide), i2 16 (by decide) (by decide) (by decide) (by decide) (by decide)]; exact a3
    · obtain ⟨t1, t2, t3, t4, t5⟩ := hT2
      refine ⟨by rw [low3 15 (by decide)]; exact t1, ?_, fun w hw => ?_, ?_, t5⟩
      · show ∀ i, i < _ → σ3.2.1 6 i = _
        rw [c3.2.1 6 (by decide)]; exact t2
      · show σ3.2.2 0 w = _
        rw [c3.2.2]; exact t3 w hw
      · show ∀ w, w < 256 → _ → σ3.2.1 11 w = _
        rw [c3.2.1 11 (by decide)]; exact t4
    · rw [low3 17 (by decide), si_same]
    · intro i hi
      show σ3.2.1 7 i = _ ∧ σ3.2.1 8 i = _ ∧ σ3.2.1 9 i = _ ∧ σ3.2.1 10 i = _
      rw [c3.2.1 7 (by decide), c3.2.1 8 (by decide), c3.2.1 9 (by decide), c3.2.1 10 (by decide)]
      exact b3 i hi
    · exact c2
    · rw [si_ne _ _ (by decide)]; exact c4
    · intro k hk
      rw [low3 k (by omega)]; exact low2 k hk
    · intro k hk
      show σ3.2.1 k = _
      rw [c3.2.1 k (by omega)]; exact arr2 k hk
    · rw [si_ne _ _ (by decide)]; exact c5
  · rw [h20, if_neg (by decide)]
    exact ⟨σ, rfl, hd, h20, fun _ _ => rfl, fun _ _ => rfl, Or.inr ⟨rfl, rfl⟩⟩
end JDG
