/-! the class measures every tree of its list -/
section TMA
variable {n m root : Nat} {fr to pr dm : Nat → Nat}
def mP (fr to pr : Nat → Nat) (m root x : Nat) : Nat := fP pr 0 (rW fr to pr m root x)
def mD (fr to pr : Nat → Nat) (m root x : Nat) : Nat := fD 0 (rW fr to pr m root x)
def mW (fr to pr : Nat → Nat) (m root x : Nat) : Nat := fW 0 (rW fr to pr m root x)
def MSR (σ : St) (fr to pr dm : Nat → Nat) (m root : Nat) (T : List Nat) (K : Nat) : Prop := ∀ i, i < K → σ.2.1 7 i = nI (mP fr to pr m root (T.getD i 0)) ∧ σ.2.1 8 i = nI (mD fr to pr m root (T.getD i 0)) ∧ σ.2.1 9 i = nI (mL fr to pr dm m root (T.getD i 0)) ∧ σ.2.1 10 i = nI (mW fr to pr m root (T.getD i 0))
/-- what measuring leaves as it is -/
def FrM (σ σ' : St) : Prop := (∀ k, k ≠ 11 → k ≠ 12 → k ≠ 13 → k ≠ 14 → σ'.1 k = σ.1 k) ∧ (∀ k, k ≠ 7 → k ≠ 8 → k ≠ 9 → k ≠ 10 → σ'.2.1 k = σ.2.1 k) ∧ σ'.2.2 = σ.2.2
theorem FrM.rfl' (σ : St) : FrM σ σ := ⟨fun _ _ _ _ _ => rfl, fun _ _ _ _ _ => rfl, rfl⟩
theorem FrM.trans {a b c : St} (h : FrM a b) (g : FrM b c) : FrM a c := ⟨fun k h1 h2 h3 h4 => (g.1 k h1 h2 h3 h4).trans (h.1 k h1 h2 h3 h4), fun k h1 h2 h3 h4 => (g.2.1 k h1 h2 h3 h4).trans (h.2.1 k h1 h2 h3 h4), g.2.2.trans h.2.2⟩
theorem FrM.net {σ σ' : St} (h : FrM σ σ') (hx : NX σ n m root fr to pr dm) : NX σ' n m root fr to pr dm := by
  obtain ⟨x0, x1, x2, xe, xv⟩ := hx
  refine ⟨by rw [h.1 0 (by decide) (by decide) (by decide) (by decide)]; exact x0, by rw [h.1 1 (by decide) (by decide) (by decide) (by decide)]; exact x1, by rw [h.1 2 (by decide) (by decide) (by decide) (by decide)]; exact x2, ?_, ?_⟩
  · rw [h.2.1 2 (by decide) (by decide) (by decide) (by decide), h.2.1 3 (by decide) (by decide) (by decide) (by decide), h.2.1 4 (by decide) (by decide) (by decide) (by decide)]; exact xe
  · rw [h.2.1 0 (by decide) (by decide) (by decide) (by decide), h.2.1 1 (by decide) (by decide) (by decide) (by decide)]; exact xv
theorem FrM.list {σ σ' : St} (h : FrM σ σ') {T : List Nat} (hl : TLR σ T) : TLR σ' T := by
  obtain ⟨a1, a2, a3, a4, a5⟩ := hl
  refine ⟨by rw [h.1 15 (by decide) (by decide) (by decide) (by decide)]; exact a1, by rw [h.2.1 6 (by decide) (by decide) (by decide) (by decide)]; exact a2, fun w hw => by rw [h.2.2]; exact a3 w hw, by rw [h.2.1 11 (by decide) (by decide) (by decide) (by decide)]; exact a4, a5⟩
theorem wkS_fr (σ : St) (p d l w : Nat) : FrM σ (wkS σ p d l w) := by
  refine ⟨fun k h1 h2 h3 h4 => ?_, fun _ _ _ _ _ => rfl, rfl⟩
  show (if k = 11 then nI p else if k = 12 then nI d else if k = 14 then nI w else (si σ 13 (nI l)).1 k) = _
  rw [if_neg h1, if_neg h2, if_neg h4, si_ne _ _ h3]
theorem TL_measureAll_ok (hw : WN n m root fr to pr dm) {N : Nat} (hN : 1300 ≤ N) {σ : St} (hx : NX σ n m root fr to pr dm) {T : List Nat} (hl : TLR σ T) (hT : ∀ t, t ∈ T → t < 2 ^ m ∧ pck m t + 1 = n ∧ ac fr to m (fun v => v) t = true) {K : Nat} (hK : K ≤ T.length) (h17 : σ.1 17 = nI K) (hM : MSR σ fr to pr dm m root T K) : ∃ σ', TL_measureAll N σ = some (si σ' 17 (nI T.length)) ∧ FrM σ σ' ∧ MSR σ' fr to pr dm m root T T.length := by
  have hlen := hl.2.2.2.2.2.2
  have loop : ∀ (d i : Nat), i + d = T.length → ∀ fuel, d < fuel → ∀ ρ : St, FrM σ ρ → MSR ρ fr to pr dm m root T i → ∃ σ', TL_measureAll_5 N (TL_measureAll_69 N) fuel (nI i) ρ = some (si σ' 17 (nI T.length)) ∧ FrM σ σ' ∧ MSR σ' fr to pr dm m root T T.length := by
    intro d
    induction d with
    | zero =>
      intro i hi fuel hf ρ hfr hms
      obtain ⟨fuel, rfl⟩ : ∃ z, fuel = z + 1 := ⟨fuel - 1, by omega⟩
      have h15 := (hfr.list hl).1
      have e : i = T.length := by omega
      rw [TL_measureAll_5_s, h15, if_pos (nI_le (by omega) (by omega))]
      unfold TL_measureAll_69 lt
      rw [h15]
      exact ⟨ρ, rfl, hfr, e ▸ hms⟩
    | succ d ih =>
      intro i hi fuel hf ρ hfr hms
      obtain ⟨fuel, rfl⟩ : ∃ z, fuel = z + 1 := ⟨fuel - 1, by omega⟩
      have hl2 := hfr.list hl
      have gi : inb (nI i) 1280 = true := inb_nI (by omega) (by decide)
      have hmem : T.getD i 0 ∈ T := by
        rw [List.getD_eq_getElem?_getD, List.getElem?_eq_getElem (by omega)]
        exact List.getElem_mem _
      obtain ⟨t1, t2, t3⟩ := hT _ hmem
      have hwk := Sh_walk_ok hw (hfr.net hx) (show 20 ≤ N by omega) t1 (load_cap hw t1 t2 t3)
      rw [TL_measureAll_5_s, hl2.1, if_neg (nI_ge (by omega) (by omega)), grd_t gi, nI_clamp (by omega), hl2.2.1 i (by omega), bnd_t hwk, grd_t gi]
      unfold lt
      dsimp only
      rw [grd_t gi, grd_t gi, grd_t gi, nI_1]
      refine ih (i + 1) (by omega) fuel (by omega) _ (hfr.trans ((wkS_fr ρ _ _ _ _).trans ⟨fun _ _ _ _ _ => rfl, fun k k1 k2 k3 k4 => ?_, rfl⟩)) ?_
      · rw [sa_ne _ _ _ k4, sa_ne _ _ _ k3, sa_ne _ _ _ k2, sa_ne _ _ _ k1]
      · intro j hj
        rw [sa_ne (j := 7) (k := 10) _ _ _ (by decide), sa_ne (j := 7) (k := 9) _ _ _ (by decide), sa_ne (j := 7) (k := 8) _ _ _ (by decide), sa_same, sa_ne (j := 8) (k := 10) _ _ _ (by decide), sa_ne (j := 8) (k := 9) _ _ _ (by decide), sa_same, sa_ne (j := 9) (k := 10) _ _ _ (by decide), sa_same, sa_same]
        by_cases e : j = i
        · rw [e, upd_s, upd_s, upd_s, upd_s]
          exact ⟨rfl, rfl, rfl, rfl⟩
        · rw [upd_n _ _ e, upd_n _ _ e, upd_n _ _ e, upd_n _ _ e]
          exact hms j (by omega)
  unfold TL_measureAll
  rw [h17]
  exact loop (T.length - K) K (by omega) N (by omega) σ (FrM.rfl' σ) hM
end TMA
