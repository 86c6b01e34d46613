/-! the call for the trees in order -/
section RKD
variable {fr to pr dm co dg cu : Nat → Nat} {n m root dep lod rf rt wy : Nat}
/-- prices of the good trees by their places among them -/
def cG (fr to pr dm co dg cu : Nat → Nat) (n m root dep lod rf rt wy : Nat) : Nat → Nat := fun i => mP fr to pr m root ((GD fr to pr dm co dg cu n m root dep lod rf rt wy).getD i 0)
theorem rank_x {σ : St} (ha : WAll fr to pr dm co dg cu n m root dep lod rf rt wy) (hd : XDone σ fr to pr dm co dg cu n m root dep lod rf rt wy) (ho : XOrd fr to pr dm co dg cu n m root dep lod rf rt wy σ) {N : Nat} (hN : 20000 ≤ N) : ∃ σ', GT_rank N σ = some σ' ∧ RKR σ' (XGood fr to pr dm co dg cu n m root dep lod rf rt wy).length (fun i => (XGood fr to pr dm co dg cu n m root dep lod rf rt wy).getD i 0) (cG fr to pr dm co dg cu n m root dep lod rf rt wy) ∧ σ'.1 21 = 1 ∧ (∀ k, k ≠ 21 → σ'.1 k = σ.1 k) ∧ σ'.2.2 = σ.2.2 ∧ (∀ k, k ≠ 14 → k ≠ 15 → k ≠ 16 → σ'.2.1 k = σ.2.1 k) := by
  obtain ⟨hw, hwl, hcu, hco, hcz⟩ := ha
  have hlen := GD_len (fr := fr) (to := to) (pr := pr) (dm := dm) (co := co) (dg := dg) (n := n) (root := root) (dep := dep) (lod := lod) (rf := rf) (rt := rt) (wy := wy) hcu
  have hcap := GD_cap (co := co) (dg := dg) (dep := dep) (lod := lod) (rf := rf) (rt := rt) (wy := wy) hw hcu
  have ht := hd.2.1.2.2.2.2.2.2
  refine GT_rank_ok (K := (XGood fr to pr dm co dg cu n m root dep lod rf rt wy).length) (P := fun i => (XGood fr to pr dm co dg cu n m root dep lod rf rt wy).getD i 0) (c := cG fr to pr dm co dg cu n m root dep lod rf rt wy) (by omega) hd.2.2.2.2.1 (fun i hi => ⟨hd.2.2.2.2.2.2.2 i hi, by have := XG_lt hi; omega⟩) (fun i hi => ?_) (show 1300 ≤ N by omega) ho
  have e := GD_at (co := co) (dg := dg) (dep := dep) (lod := lod) (rf := rf) (rt := rt) (wy := wy) hcu hi
  refine ⟨?_, ?_⟩
  · rw [(hd.2.2.2.1 _ (XG_lt hi)).1, ← e]; rfl
  · have hT : isT fr to n m ((GD fr to pr dm co dg cu n m root dep lod rf rt wy).getD i 0) := by rw [e]; exact tl_isT (getD_mem (XG_lt hi))
    have := (meas_cap hw hT).1
    show mP fr to pr m root _ < _
    omega
theorem rank_again {σ : St} (h : σ.1 21 = 1) (N : Nat) : GT_rank N σ = some σ := by
  unfold GT_rank
  rw [h, if_neg (by decide)]
theorem placeRanked_ok {σ σ' : St} {N K : Nat} {P c : Nat → Nat} (hK : K ≤ 1280) (h : GT_rank N σ = some σ') (hr : RKR σ' K P c) (hP : ∀ i, i < K → P i < 1280) {i : Nat} (hi : i < K) : GT_placeRanked N (nI (posK c K i)) σ = some (nI (P i), σ') := by
  have hp : posK c K i < K := posK_lt hi
  have := hP i hi
  unfold GT_placeRanked
  rw [bnd_t h, grd_t (inb_nI (by omega) (by decide)), nI_clamp (by omega), hr i hi, show (2047 : Int32) = nI (2 ^ 11 - 1) from rfl, fa_mask, Nat.mul_add_mod, Nat.mod_eq_of_lt (by omega)]
theorem rank_ag {σ σ' : St} (h1 : ∀ k, k ≠ 21 → σ'.1 k = σ.1 k) (h2 : σ'.2.2 = σ.2.2) (h3 : ∀ k, k ≠ 14 → k ≠ 15 → k ≠ 16 → σ'.2.1 k = σ.2.1 k) : Ag σ σ' := ⟨fun k hk => h1 k (by omega), fun k hk => h3 k (by omega) (by omega) (by omega), by rw [h2]⟩
theorem rank_inv {σ σ' : St} (hx : IvX fr to pr dm co dg cu n m root dep lod rf rt wy σ) (hr : XRt σ (XGood fr to pr dm co dg cu n m root dep lod rf rt wy) (GD fr to pr dm co dg cu n m root dep lod rf rt wy)) (hk : RKR σ' (XGood fr to pr dm co dg cu n m root dep lod rf rt wy).length (fun i => (XGood fr to pr dm co dg cu n m root dep lod rf rt wy).getD i 0) (cG fr to pr dm co dg cu n m root dep lod rf rt wy)) (h21 : σ'.1 21 = 1) (h1 : ∀ k, k ≠ 21 → σ'.1 k = σ.1 k) (h2 : σ'.2.2 = σ.2.2) (h3 : ∀ k, k ≠ 14 → k ≠ 15 → k ≠ 16 → σ'.2.1 k = σ.2.1 k) : IvX fr to pr dm co dg cu n m root dep lod rf rt wy σ' := (rank_ag h1 h2 h3).inv hx (fun _ => ⟨Or.inr ⟨h21, hk⟩, XRt_same hr (fun k _ _ => h1 k (by omega)) (h3 17 (by decide) (by decide) (by decide)) (by rw [h2])⟩)
theorem call_ranked {σ τ : St} (hI : Inv σ τ) {N : Nat} (hN : 20000 ≤ N) (x : Int32) : Both (LT_ranked N x σ) (M_ranked N x τ) := by
  obtain ⟨fr, to, pr, dm, co, dg, cu, n, m, root, dep, lod, rf, rt, wy, ha, hx, hm⟩ := hI
  obtain ⟨σ1, a1, a2, a3, a4, a5, a6⟩ := judge_x ha hx hN
  obtain ⟨τ', b1, b2, b3, b4, b5⟩ := judge_m ha hm hN
  have hcu := ha.2.2.1
  have hlen := GD_len (fr := fr) (to := to) (pr := pr) (dm := dm) (co := co) (dg := dg) (n := n) (root := root) (dep := dep) (lod := lod) (rf := rf) (rt := rt) (wy := wy) hcu
  have hcap := GD_cap (co := co) (dg := dg) (dep := dep) (lod := lod) (rf := rf) (rt := rt) (wy := wy) ha.1 hcu
  have e10 : τ'.1 10 = nI (GD fr to pr dm co dg cu n m root dep lod rf rt wy).length := b4.1.2.1
  have e18 : σ1.1 18 = nI (GD fr to pr dm co dg cu n m root dep lod rf rt wy).length := by rw [hlen]; exact a4.2.2.2.2.1
  unfold LT_ranked M_ranked
  rw [bnd_t a1, bnd_t b1, e10, e18, show LT_within x 0 (nI (GD fr to pr dm co dg cu n m root dep lod rf rt wy).length - 1) = M_lies x 0 (nI (GD fr to pr dm co dg cu n m root dep lod rf rt wy).length - 1) from rfl]
  rcases lies_ix (show (GD fr to pr dm co dg cu n m root dep lod rf rt wy).length < 2 ^ 30 by omega) x with ⟨z, -⟩ | ⟨q, hq, rfl, z⟩
  · rw [z, if_pos rfl, if_pos rfl]
    exact ⟨_, _, _, rfl, rfl, _, _, _, _, _, _, _, _, _, _, _, _, _, _, _, ha, a2, b2⟩
  · have ht := a4.2.1.2.2.2.2.2.2
    obtain ⟨σ2, r1, r2, r3, r4, r5, r6⟩ := rank_x ha a4 a5 hN
    obtain ⟨i, hi, hiq⟩ := posK_surj (d := cG fr to pr dm co dg cu n m root dep lod rf rt wy) (hlen ▸ hq)
    have hp := XG_lt hi
    have hpr := placeRanked_ok (by omega) r1 r2 (fun i hi => by have := XG_lt hi; omega) hi
    rw [hiq] at hpr
    have hd2 := (rank_ag r4 r5 r6).done a4
    have e15 : τ'.2.1 15 q = nI i := by
      have := b4.2 i (show i < (GD fr to pr dm co dg cu n m root dep lod rf rt wy).length by omega)
      rw [← hlen] at hiq
      have e2 : posK (cG fr to pr dm co dg cu n m root dep lod rf rt wy) (GD fr to pr dm co dg cu n m root dep lod rf rt wy).length i = q := hiq
      rw [← e2]
      exact this
    have e11 : τ'.2.1 11 i = nI ((GD fr to pr dm co dg cu n m root dep lod rf rt wy).getD i 0) := (b4.1.2.2.2.1 i (show i < (GD fr to pr dm co dg cu n m root dep lod rf rt wy).length by omega)).1
    rw [z, if_neg (by decide), if_neg (by decide), hpr]
    unfold bnd2
    dsimp only
    rw [grd_t (inb_nI (by omega) (by decide)), nI_clamp (by omega), hd2.2.1.2.1 _ hp, grd_t (inb_nI (by omega) (by decide)), nI_clamp (by omega), e15, grd_t (inb_nI (by omega) (by decide)), nI_clamp (by omega), e11, ← GD_at hcu hi]
    exact ⟨_, _, _, rfl, rfl, _, _, _, _, _, _, _, _, _, _, _, _, _, _, _, ha, rank_inv a2 a6 r2 r3 r4 r5 r6, b2⟩
end RKD
