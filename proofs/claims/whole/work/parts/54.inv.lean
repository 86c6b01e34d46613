/-! what holds of the class and of the reference between two calls -/
/-- within k steps of the good tree g -/
def RI (K : Nat) (adj : Nat → Nat → Bool) (g : Nat) : Nat → Nat → Bool
  | 0, i => decide (i = g)
  | k + 1, i => RI K adj g k i || (List.range K).any (fun j => RI K adj g k j && adj j i)
def adjG (G : List Nat) (i j : Nat) : Bool := decide (pck 14 (G.getD i 0 ^^^ G.getD j 0) = 2)
def ds (K : Nat) (adj : Nat → Nat → Bool) (g l i : Nat) : Nat := fb_ct (fun k => !RI K adj g k i) l
def XRt (σ : St) (P G : List Nat) : Prop := σ.1 23 = -1 ∨ ∃ g l, g < G.length ∧ l ≤ 1280 ∧ σ.1 23 = nI (P.getD g 0) ∧ σ.1 25 = nI l ∧ σ.1 24 = nI (mk 14 (fun e => G.any (fun x => x.testBit e))) ∧ (∀ i, i < G.length → σ.2.1 17 (P.getD i 0) = if RI G.length (adjG G) g l i = true then nI (ds G.length (adjG G) g l i) else -1) ∧ WB σ 1 (fun z => (List.range G.length).any (fun i => decide (G.getD i 0 = z) && !RI G.length (adjG G) g l i)) ∧ ((σ.1 26 = 0 ∧ ∀ i, i < G.length → RI G.length (adjG G) g (l + 1) i = RI G.length (adjG G) g l i) ∨ σ.1 26 = 1)
section INV
variable (fr to pr dm co dg cu : Nat → Nat) (n m root dep lod rf rt wy : Nat)
/-- the good trees -/
def GD : List Nat := gT (tb fr to cu n m) (bvl fr to pr dm co dg n m root dep lod rf rt wy) (2 ^ m)
def WAll : Prop := WN n m root fr to pr dm ∧ WL dg dep lod rf rt wy ∧ (∀ e, e < m → cu e ≤ 1) ∧ (∀ e, e < m → co e ≤ 1) ∧ (∀ e, m ≤ e → cu e = 0)
def XOrd (σ : St) : Prop := σ.1 21 = 0 ∨ (σ.1 21 = 1 ∧ RKR σ (XGood fr to pr dm co dg cu n m root dep lod rf rt wy).length (fun i => (XGood fr to pr dm co dg cu n m root dep lod rf rt wy).getD i 0) (fun i => mP fr to pr m root ((GD fr to pr dm co dg cu n m root dep lod rf rt wy).getD i 0)))
def IvX (σ : St) : Prop := NX σ n m root fr to pr dm ∧ LX σ m co dg dep lod rf rt wy ∧ σ.1 4 = nI (cmk m cu) ∧ XPre σ fr to pr dm n m root ∧ (σ.1 20 = 0 ∨ (σ.1 20 = 1 ∧ XDone σ fr to pr dm co dg cu n m root dep lod rf rt wy ∧ XOrd fr to pr dm co dg cu n m root dep lod rf rt wy σ ∧ XRt σ (XGood fr to pr dm co dg cu n m root dep lod rf rt wy) (GD fr to pr dm co dg cu n m root dep lod rf rt wy)))
def IvM (τ : St) : Prop := NM τ n m root fr to pr co cu dm ∧ LM τ dg dep lod rf rt wy ∧ (τ.1 8 = 0 ∨ (τ.1 8 = 1 ∧ MDone τ fr to pr dm co dg cu n m root dep lod rf rt wy))
end INV
def Inv (σ τ : St) : Prop := ∃ (fr to pr dm co dg cu : Nat → Nat) (n m root dep lod rf rt wy : Nat), WAll fr to pr dm co dg cu n m root dep lod rf rt wy ∧ IvX fr to pr dm co dg cu n m root dep lod rf rt wy σ ∧ IvM fr to pr dm co dg cu n m root dep lod rf rt wy τ
theorem list_range (T : List Nat) : (List.range T.length).map (fun i => T.getD i 0) = T := by
  apply List.ext_getElem
  · rw [List.length_map, List.length_range]
  · intro i h1 h2
    rw [List.getElem_map, List.getElem_range, List.getD_eq_getElem?_getD, List.getElem?_eq_getElem h2]
    rfl
section LNK
variable {fr to pr dm co dg cu : Nat → Nat} {n m root dep lod rf rt wy : Nat}
/-- the reference's good trees are those at the class's good places -/
theorem GD_eq (hcu : ∀ e, e < m → cu e ≤ 1) : GD fr to pr dm co dg cu n m root dep lod rf rt wy = (XGood fr to pr dm co dg cu n m root dep lod rf rt wy).map (fun p => (tl fr to m (fun v => v) n 0).getD p 0) := by
  unfold GD gT XGood plT
  rw [uT_eq hcu, List.filter_filter]
  conv => lhs; rw [← list_range (tl fr to m (fun v => v) n 0)]
  rw [List.filter_map]
  congr 1
  refine List.filter_congr (fun i _ => ?_)
  show (decide (_ = 0) && ucb m cu _) = _
  rw [Bool.and_comm]
theorem GD_len (hcu : ∀ e, e < m → cu e ≤ 1) : (GD fr to pr dm co dg cu n m root dep lod rf rt wy).length = (XGood fr to pr dm co dg cu n m root dep lod rf rt wy).length := by rw [GD_eq hcu, List.length_map]
theorem XG_lt {i : Nat} (h : i < (XGood fr to pr dm co dg cu n m root dep lod rf rt wy).length) : (XGood fr to pr dm co dg cu n m root dep lod rf rt wy).getD i 0 < (tl fr to m (fun v => v) n 0).length := by
  have := getD_mem h
  unfold XGood plT at this
  exact List.mem_range.mp (List.mem_filter.mp this).1
theorem GD_at (hcu : ∀ e, e < m → cu e ≤ 1) {i : Nat} (h : i < (XGood fr to pr dm co dg cu n m root dep lod rf rt wy).length) : (GD fr to pr dm co dg cu n m root dep lod rf rt wy).getD i 0 = (tl fr to m (fun v => v) n 0).getD ((XGood fr to pr dm co dg cu n m root dep lod rf rt wy).getD i 0) 0 := by
  rw [GD_eq hcu, List.getD_eq_getElem?_getD, List.getElem?_map, List.getElem?_eq_getElem h, List.getD_eq_getElem?_getD (l := XGood fr to pr dm co dg cu n m root dep lod rf rt wy), List.getElem?_eq_getElem h]
  rfl
theorem GD_cap (hw : WN n m root fr to pr dm) (hcu : ∀ e, e < m → cu e ≤ 1) : (GD fr to pr dm co dg cu n m root dep lod rf rt wy).length ≤ 1280 := Nat.le_trans (gT_len _ _ _) (uT_cap hw hcu)
/-- both sides, once judged -/
def Dn (fr to pr dm co dg cu : Nat → Nat) (n m root dep lod rf rt wy : Nat) (σ τ : St) : Prop := IvX fr to pr dm co dg cu n m root dep lod rf rt wy σ ∧ σ.1 20 = 1 ∧ XDone σ fr to pr dm co dg cu n m root dep lod rf rt wy ∧ XOrd fr to pr dm co dg cu n m root dep lod rf rt wy σ ∧ XRt σ (XGood fr to pr dm co dg cu n m root dep lod rf rt wy) (GD fr to pr dm co dg cu n m root dep lod rf rt wy) ∧ IvM fr to pr dm co dg cu n m root dep lod rf rt wy τ ∧ τ.1 8 = 1 ∧ MDone τ fr to pr dm co dg cu n m root dep lod rf rt wy
theorem judge_x {σ : St} (ha : WAll fr to pr dm co dg cu n m root dep lod rf rt wy) (hx : IvX fr to pr dm co dg cu n m root dep lod rf rt wy σ) {N : Nat} (hN : 20000 ≤ N) : ∃ σ', LT_judge N σ = some σ' ∧ IvX fr to pr dm co dg cu n m root dep lod rf rt wy σ' ∧ σ'.1 20 = 1 ∧ XDone σ' fr to pr dm co dg cu n m root dep lod rf rt wy ∧ XOrd fr to pr dm co dg cu n m root dep lod rf rt wy σ' ∧ XRt σ' (XGood fr to pr dm co dg cu n m root dep lod rf rt wy) (GD fr to pr dm co dg cu n m root dep lod rf rt wy) := by
  obtain ⟨hw, hwl, hcu, hco, hcz⟩ := ha
  obtain ⟨x1, x2, x3, x4, x5⟩ := hx
  obtain ⟨σ', a1, a2, a3, a4, a5, a6⟩ := LT_judge_ok hw x1 x2 hwl hco x3 (show 1300 ≤ N by omega) x4 (by
    rcases x5 with z | ⟨z, y, -⟩
    · exact Or.inl z
    · exact Or.inr ⟨z, y⟩)
  rcases a6 with ⟨b1, b2⟩ | ⟨b1, b2⟩
  · have hx' : NX σ' n m root fr to pr dm := by
      obtain ⟨x0, x1, x2, xe, xv⟩ := x1
      refine ⟨by rw [a4 0 (by decide)]; exact x0, by rw [a4 1 (by decide)]; exact x1, by rw [a4 2 (by decide)]; exact x2, ?_, ?_⟩
      · rw [a5 2 (by decide), a5 3 (by decide), a5 4 (by decide)]; exact xe
      · rw [a5 0 (by decide), a5 1 (by decide)]; exact xv
    have hl' : LX σ' m co dg dep lod rf rt wy := by
      obtain ⟨l1, l2, l3, l4, l5, l6, l7, l8⟩ := x2
      exact ⟨by rw [a4 3 (by decide)]; exact l1, by rw [a4 5 (by decide)]; exact l2, by rw [a4 6 (by decide)]; exact l3, by rw [a4 7 (by decide)]; exact l4, by rw [a4 8 (by decide)]; exact l5, by rw [a4 9 (by decide)]; exact l6, by rw [a4 10 (by decide)]; exact l7, by rw [a5 5 (by decide)]; exact l8⟩
    have hp' : XPre σ' fr to pr dm n m root := ⟨m, _, Nat.le_refl m, a2.1, a2.2.1, Nat.le_refl _, a2.2.2.1, a2.2.2.2.1⟩
    exact ⟨σ', a1, ⟨hx', hl', by rw [a4 4 (by decide)]; exact x3, hp', Or.inr ⟨a3, a2, Or.inl b1, Or.inl b2⟩⟩, a3, a2, Or.inl b1, Or.inl b2⟩
  · subst b2
    rcases x5 with z | ⟨z, y1, y2, y3⟩
    · rw [b1] at z; exact absurd z (by decide)
    · exact ⟨σ', a1, ⟨x1, x2, x3, x4, Or.inr ⟨z, y1, y2, y3⟩⟩, z, y1, y2, y3⟩
theorem judge_m {τ : St} (ha : WAll fr to pr dm co dg cu n m root dep lod rf rt wy) (hm : IvM fr to pr dm co dg cu n m root dep lod rf rt wy τ) {N : Nat} (hN : 20000 ≤ N) : ∃ τ', M_works N τ = some τ' ∧ IvM fr to pr dm co dg cu n m root dep lod rf rt wy τ' ∧ τ'.1 8 = 1 ∧ MDone τ' fr to pr dm co dg cu n m root dep lod rf rt wy ∧ FrW τ τ' := by
  obtain ⟨hw, hwl, hcu, hco, hcz⟩ := ha
  obtain ⟨m1, m2, m3⟩ := hm
  obtain ⟨τ', a1, a2, a3, a4⟩ := M_works_ok hw hcu hco hwl hN m1 m2 m3
  exact ⟨τ', a1, ⟨a4.net m1, a4.lim m2, Or.inr ⟨a2, a3⟩⟩, a2, a3, a4⟩
end LNK
