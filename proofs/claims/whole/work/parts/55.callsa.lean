/-! calls that read the judged trees -/
theorem lies_ix {K : Nat} (hK : K < 2 ^ 30) (x : Int32) : (M_lies x 0 (nI K - 1) = 0 ∧ ∀ i, i < K → x ≠ nI i) ∨ (∃ i, i < K ∧ x = nI i ∧ M_lies x 0 (nI K - 1) = 1) := by
  have hk : (nI K - 1).toInt = (K : Int) - 1 := by
    by_cases z : K = 0
    · subst z; decide
    · rw [show (1 : Int32) = nI 1 from rfl, nI_sub (by omega), nI_toInt (by omega)]; omega
  unfold M_lies
  by_cases h0 : x < 0
  · left
    rw [if_pos h0]
    refine ⟨rfl, fun i hi e => ?_⟩
    rw [e, fa_lt, nI_toInt (by omega)] at h0
    have : ((0 : Int32).toInt) = 0 := by decide
    omega
  · rw [if_neg h0]
    have h1 : 0 ≤ x.toInt := by
      have := fa_of_nlt h0
      rw [fa_le] at this
      exact this
    have hx : x = nI x.toInt.toNat := by
      have hb := Int32.toInt_lt x
      rw [fa_eq, nI_toInt (by omega)]
      omega
    by_cases h2 : nI K - 1 < x
    · left
      rw [if_pos h2]
      refine ⟨rfl, fun i hi e => ?_⟩
      rw [e, fa_lt, hk, nI_toInt (by omega)] at h2
      omega
    · right
      rw [if_neg h2]
      have h3 := fa_of_nlt h2
      rw [fa_le, hk] at h3
      exact ⟨x.toInt.toNat, by omega, hx, rfl⟩
def Both (a b : Option (Int32 × St)) : Prop := ∃ r σ' τ', a = some (r, σ') ∧ b = some (r, τ') ∧ Inv σ' τ'
/-- the same in all that is kept of the net and of the judged trees, but for order and route -/
def Ag (σ σ' : St) : Prop := (∀ k, k < 11 ∨ (15 ≤ k ∧ k ≤ 22 ∧ k ≠ 21) → σ'.1 k = σ.1 k) ∧ (∀ k, k < 12 ∨ k = 13 → σ'.2.1 k = σ.2.1 k) ∧ σ'.2.2 0 = σ.2.2 0
section CLA
variable {fr to pr dm co dg cu : Nat → Nat} {n m root dep lod rf rt wy : Nat}
theorem Ag.nx {σ σ' : St} (h : Ag σ σ') (hx : NX σ n m root fr to pr dm) : NX σ' n m root fr to pr dm := by
  obtain ⟨x0, x1, x2, xe, xv⟩ := hx
  refine ⟨by rw [h.1 0 (by decide)]; exact x0, by rw [h.1 1 (by decide)]; exact x1, by rw [h.1 2 (by decide)]; exact x2, ?_, ?_⟩
  · rw [h.2.1 2 (by decide), h.2.1 3 (by decide), h.2.1 4 (by decide)]; exact xe
  · rw [h.2.1 0 (by decide), h.2.1 1 (by decide)]; exact xv
theorem Ag.lx {σ σ' : St} (h : Ag σ σ') (hl : LX σ m co dg dep lod rf rt wy) : LX σ' m co dg dep lod rf rt wy := by
  obtain ⟨l1, l2, l3, l4, l5, l6, l7, l8⟩ := hl
  exact ⟨by rw [h.1 3 (by decide)]; exact l1, by rw [h.1 5 (by decide)]; exact l2, by rw [h.1 6 (by decide)]; exact l3, by rw [h.1 7 (by decide)]; exact l4, by rw [h.1 8 (by decide)]; exact l5, by rw [h.1 9 (by decide)]; exact l6, by rw [h.1 10 (by decide)]; exact l7, by rw [h.2.1 5 (by decide)]; exact l8⟩
theorem Ag.tl {σ σ' : St} (h : Ag σ σ') {T : List Nat} (hl : TLR σ T) : TLR σ' T := by
  obtain ⟨a1, a2, a3, a4, a5⟩ := hl
  exact ⟨by rw [h.1 15 (by decide)]; exact a1, by rw [h.2.1 6 (by decide)]; exact a2, fun w hw => by rw [h.2.2]; exact a3 w hw, by rw [h.2.1 11 (by decide)]; exact a4, a5⟩
theorem Ag.ms {σ σ' : St} (h : Ag σ σ') {T : List Nat} {K : Nat} (hM : MSR σ fr to pr dm m root T K) : MSR σ' fr to pr dm m root T K := by
  intro i hi
  rw [h.2.1 7 (by decide), h.2.1 8 (by decide), h.2.1 9 (by decide), h.2.1 10 (by decide)]
  exact hM i hi
theorem Ag.pre {σ σ' : St} (h : Ag σ σ') (hp : XPre σ fr to pr dm n m root) : XPre σ' fr to pr dm n m root := by
  obtain ⟨L, K, a, b, c, d, e, f⟩ := hp
  exact ⟨L, K, a, by rw [h.1 16 (by decide)]; exact b, h.tl c, d, by rw [h.1 17 (by decide)]; exact e, h.ms f⟩
theorem Ag.done {σ σ' : St} (h : Ag σ σ') (hd : XDone σ fr to pr dm co dg cu n m root dep lod rf rt wy) : XDone σ' fr to pr dm co dg cu n m root dep lod rf rt wy := by
  obtain ⟨a, b, c, d, e⟩ := hd
  obtain ⟨g1, g2, g3, g4⟩ := e
  exact ⟨by rw [h.1 16 (by decide)]; exact a, h.tl b, by rw [h.1 17 (by decide)]; exact c, h.ms d, by rw [h.1 18 (by decide)]; exact g1, by rw [h.1 19 (by decide)]; exact g2, by rw [h.1 22 (by decide)]; exact g3, by rw [h.2.1 13 (by decide)]; exact g4⟩
theorem Ag.inv {σ σ' : St} (h : Ag σ σ') (hx : IvX fr to pr dm co dg cu n m root dep lod rf rt wy σ) (ho : σ.1 20 = 1 → XOrd fr to pr dm co dg cu n m root dep lod rf rt wy σ' ∧ XRt σ' (XGood fr to pr dm co dg cu n m root dep lod rf rt wy) (GD fr to pr dm co dg cu n m root dep lod rf rt wy)) : IvX fr to pr dm co dg cu n m root dep lod rf rt wy σ' := by
  obtain ⟨x1, x2, x3, x4, x5⟩ := hx
  refine ⟨h.nx x1, h.lx x2, by rw [h.1 4 (by decide)]; exact x3, h.pre x4, ?_⟩
  rcases x5 with z | ⟨z, y, -⟩
  · exact Or.inl (by rw [h.1 20 (by decide)]; exact z)
  · exact Or.inr ⟨by rw [h.1 20 (by decide)]; exact z, h.done y, ho z⟩
theorem XRt_same {σ σ' : St} {P G : List Nat} (h : XRt σ P G) (h1 : ∀ k, 23 ≤ k → k ≤ 26 → σ'.1 k = σ.1 k) (h2 : σ'.2.1 17 = σ.2.1 17) (h3 : σ'.2.2 1 = σ.2.2 1) : XRt σ' P G := by
  unfold XRt at h ⊢
  rw [h1 23 (by decide) (by decide), h1 24 (by decide) (by decide), h1 25 (by decide) (by decide), h1 26 (by decide) (by decide), h2]
  rcases h with h | ⟨g, l, a, b, c, d, e, f, w, i⟩
  · exact Or.inl h
  · exact Or.inr ⟨g, l, a, b, c, d, e, f, fun q hq => by rw [h3]; exact w q hq, i⟩
theorem call_many {σ τ : St} (hI : Inv σ τ) {N : Nat} (hN : 20000 ≤ N) : Both (LT_many N σ) (M_many N τ) := by
  obtain ⟨fr, to, pr, dm, co, dg, cu, n, m, root, dep, lod, rf, rt, wy, ha, hx, hm⟩ := hI
  obtain ⟨σ', a1, a2, a3, a4, a5, a6⟩ := judge_x ha hx hN
  obtain ⟨τ', b1, b2, b3, b4, b5⟩ := judge_m ha hm hN
  unfold LT_many M_many
  rw [bnd_t a1, bnd_t b1]
  refine ⟨_, σ', τ', rfl, ?_, _, _, _, _, _, _, _, _, _, _, _, _, _, _, _, ha, a2, b2⟩
  rw [show τ'.1 10 = _ from b4.1.2.1, show σ'.1 18 = _ from a4.2.2.2.2.1]
  have := GD_len (fr := fr) (to := to) (pr := pr) (dm := dm) (co := co) (dg := dg) (n := n) (root := root) (dep := dep) (lod := lod) (rf := rf) (rt := rt) (wy := wy) ha.2.2.1
  unfold GD XGood at this
  rw [this]
theorem call_whole {σ τ : St} (hI : Inv σ τ) {N : Nat} (hN : 20000 ≤ N) : Both (LT_wholeTrees N σ) (bnd (M_works N τ) (fun σ16 => some ((σ16.1 9), σ16))) := by
  obtain ⟨fr, to, pr, dm, co, dg, cu, n, m, root, dep, lod, rf, rt, wy, ha, hx, hm⟩ := hI
  obtain ⟨σ', a1, a2, a3, a4, a5, a6⟩ := judge_x ha hx hN
  obtain ⟨τ', b1, b2, b3, b4, b5⟩ := judge_m ha hm hN
  unfold LT_wholeTrees
  rw [bnd_t a1, bnd_t b1]
  refine ⟨_, σ', τ', rfl, ?_, _, _, _, _, _, _, _, _, _, _, _, _, _, _, _, ha, a2, b2⟩
  rw [show τ'.1 9 = _ from b4.1.1, show σ'.1 19 = _ from a4.2.2.2.2.2.1, List.take_length, uT_eq ha.2.2.1]
theorem call_good {σ τ : St} (hI : Inv σ τ) {N : Nat} (hN : 20000 ≤ N) (x : Int32) : Both (LT_good N x σ) (M_good N x τ) := by
  obtain ⟨fr, to, pr, dm, co, dg, cu, n, m, root, dep, lod, rf, rt, wy, ha, hx, hm⟩ := hI
  obtain ⟨σ', a1, a2, a3, a4, a5, a6⟩ := judge_x ha hx hN
  obtain ⟨τ', b1, b2, b3, b4, b5⟩ := judge_m ha hm hN
  have hcu := ha.2.2.1
  have hlen := GD_len (fr := fr) (to := to) (pr := pr) (dm := dm) (co := co) (dg := dg) (n := n) (root := root) (dep := dep) (lod := lod) (rf := rf) (rt := rt) (wy := wy) hcu
  have hcap := GD_cap (co := co) (dg := dg) (dep := dep) (lod := lod) (rf := rf) (rt := rt) (wy := wy) ha.1 hcu
  have e10 : τ'.1 10 = nI (GD fr to pr dm co dg cu n m root dep lod rf rt wy).length := b4.1.2.1
  have e18 : σ'.1 18 = nI (GD fr to pr dm co dg cu n m root dep lod rf rt wy).length := by rw [hlen]; exact a4.2.2.2.2.1
  have fin : Inv σ' τ' := ⟨_, _, _, _, _, _, _, _, _, _, _, _, _, _, _, ha, a2, b2⟩
  unfold LT_good M_good
  rw [bnd_t a1, bnd_t b1, e10, e18, show LT_within x 0 (nI (GD fr to pr dm co dg cu n m root dep lod rf rt wy).length - 1) = M_lies x 0 (nI (GD fr to pr dm co dg cu n m root dep lod rf rt wy).length - 1) from rfl]
  rcases lies_ix (show (GD fr to pr dm co dg cu n m root dep lod rf rt wy).length < 2 ^ 30 by omega) x with ⟨z, -⟩ | ⟨i, hi, rfl, z⟩
  · rw [z, if_pos rfl, if_pos rfl]
    exact ⟨_, _, _, rfl, rfl, fin⟩
  · have hi' : i < (XGood fr to pr dm co dg cu n m root dep lod rf rt wy).length := hlen ▸ hi
    have hp := XG_lt hi'
    have ht := a4.2.1.2.2.2.2.2.2
    have e13 : σ'.2.1 13 i = nI ((XGood fr to pr dm co dg cu n m root dep lod rf rt wy).getD i 0) := a4.2.2.2.2.2.2.2 i hi'
    rw [z, if_neg (by decide), if_neg (by decide), grd_t (inb_nI (by omega) (by decide)), nI_clamp (by omega), e13, grd_t (inb_nI (by omega) (by decide)), nI_clamp (by omega), a4.2.1.2.1 _ hp, grd_t (inb_nI (by omega) (by decide)), (b4.1.2.2.2.1 i hi).1, ← GD_at hcu hi']
    exact ⟨_, _, _, rfl, rfl, fin⟩
end CLA
