/-! the class's list of trees grows by one line -/
theorem nI_sub {a b : Nat} (h : b ≤ a) : nI a - nI b = nI (a - b) := (Int32.ofNat_sub a b h).symm
theorem tl_zero (fr to : Nat → Nat) : ∀ (j : Nat) (c : Nat → Nat) (k s : Nat), j + 1 < k ∨ k = 0 → tl fr to j c k s = [] := by
  intro j c k s h
  refine List.eq_nil_iff_forall_not_mem.mpr (fun x hx => ?_)
  obtain ⟨y, -, -, -, hk⟩ := (tl_mem j c k s x).mp hx
  have : pck j y ≤ j := fb_ct_le _ _
  omega
theorem tl_one (fr to : Nat → Nat) : ∀ (j : Nat) (c : Nat → Nat) (s : Nat), tl fr to j c 1 s = [s] := by
  intro j
  induction j with
  | zero => intro c s; rfl
  | succ j ih =>
    intro c s
    show tl fr to j c 1 s ++ (if c (fr j) = c (to j) then [] else tl fr to j (mg c (fr j) (to j)) 0 (s + 2 ^ j)) = [s]
    rw [ih, tl_zero fr to j _ 0 _ (Or.inr rfl), ite_self, List.append_nil]
theorem tl_mono (fr to : Nat → Nat) (c : Nat → Nat) (k s : Nat) {j : Nat} : ∀ {b : Nat}, j ≤ b → (tl fr to j c k s).length ≤ (tl fr to b c k s).length := by
  intro b
  induction b with
  | zero => intro h; rw [Nat.le_zero.mp h]; exact Nat.le_refl _
  | succ b ih =>
    intro h
    by_cases e : j = b + 1
    · rw [e]; exact Nat.le_refl _
    · refine Nat.le_trans (ih (by omega)) ?_
      show _ ≤ (tl fr to b c k s ++ _).length
      rw [List.length_append]
      exact Nat.le_add_right _ _
theorem TLR_keep {σ σ' : St} {T : List Nat} (h : TLR σ T) (h1 : σ'.1 = σ.1) (h2 : σ'.2.2 = σ.2.2) (h3 : ∀ k, k ≠ 12 → σ'.2.1 k = σ.2.1 k) : TLR σ' T := by
  obtain ⟨a1, a2, a3, a4, a5⟩ := h
  refine ⟨by rw [h1]; exact a1, by rw [h3 6 (by decide)]; exact a2, fun w hw => by rw [h2]; exact a3 w hw, by rw [h3 11 (by decide)]; exact a4, a5⟩
section TGR
variable {n m root : Nat} {fr to pr dm : Nat → Nat}
theorem TL_grow_ok (hw : WN n m root fr to pr dm) {N : Nat} (hN : 20 ≤ N) : ∀ (dd h k : Nat), k + h = n → 2 ≤ k → k ≤ dd + 1 → ∀ (b j s q : Nat) (c : Nat → Nat) (T : List Nat) (σ : St), b ≤ m → j < 20 → s = 2 ^ b * q → s + 2 ^ b ≤ 2 ^ 14 → NX σ n m root fr to pr dm → JR σ n h c → (∀ t, t ∈ T → t < s) → TLR σ (T ++ tl fr to j c k s) → (T ++ tl fr to b c k s).length ≤ 1280 → (j ≤ b ∨ tl fr to j c k s = tl fr to b c k s) → ∃ σ', TL_grow N dd (nI h) (nI j) (nI b) (nI s) σ = some σ' ∧ TLR σ' (T ++ tl fr to b c k s) ∧ FrT σ σ' ∧ (∀ i, i < 8 * (h + 1) → σ'.2.1 12 i = σ.2.1 12 i) := by
  intro dd
  induction dd with
  | zero => intro h k _ h2 h3; omega
  | succ dd ihd =>
    intro h k hk hk2 hkd b j s q c T σ hb hj20 hs hsb hx hjr hT hl hlen hjb
    have hn8 := hw.2.1
    have hm := hw.2.2.1
    have x5 : nI n - 1 - nI h = nI (k - 1) := by
      rw [show (1 : Int32) = nI 1 from rfl, nI_sub (by omega), nI_sub (by omega)]
      congr 1
      omega
    show ∃ σ', TL_grow_16 N (TL_grow N dd) N (nI h) (nI b) (nI s) ((σ.1 0) - 1 - nI h) (nI j) σ = some σ' ∧ _
    rw [hx.1, x5]
    have loop : ∀ (d fuel : Nat), d < fuel → ∀ (j : Nat) (ρ : St), j < 20 → b ≤ j + d → NX ρ n m root fr to pr dm → JR ρ n h c → TLR ρ (T ++ tl fr to j c k s) → (j ≤ b ∨ tl fr to j c k s = tl fr to b c k s) → ∃ σ', TL_grow_16 N (TL_grow N dd) fuel (nI h) (nI b) (nI s) (nI (k - 1)) (nI j) ρ = some σ' ∧ TLR σ' (T ++ tl fr to b c k s) ∧ FrT ρ σ' ∧ (∀ i, i < 8 * (h + 1) → σ'.2.1 12 i = ρ.2.1 12 i) := by
      intro d
      induction d with
      | zero =>
        intro fuel hf j ρ hj hbj rx rj rl rjb
        obtain ⟨fuel, rfl⟩ : ∃ z, fuel = z + 1 := ⟨fuel - 1, by omega⟩
        have e : tl fr to j c k s = tl fr to b c k s := by
          rcases rjb with z | z
          · rw [show j = b by omega]
          · exact z
        rw [TL_grow_16_s, if_pos (nI_le (by omega) (by omega))]
        exact ⟨ρ, rfl, e ▸ rl, FrT.rfl' ρ, fun _ _ => rfl⟩
      | succ d ih =>
        intro fuel hf j ρ hj hbj rx rj rl rjb
        obtain ⟨fuel, rfl⟩ : ∃ z, fuel = z + 1 := ⟨fuel - 1, by omega⟩
        by_cases hge : b ≤ j
        · have e : tl fr to j c k s = tl fr to b c k s := by
            rcases rjb with z | z
            · rw [show j = b by omega]
            · exact z
          rw [TL_grow_16_s, if_pos (nI_le hge (by omega))]
          exact ⟨ρ, rfl, e ▸ rl, FrT.rfl' ρ, fun _ _ => rfl⟩
        · have hjb : j < b := Nat.not_le.mp hge
          rw [TL_grow_16_s, if_neg (nI_ge (by omega) (by omega)), bnd_t (TL_joined_ok hw rx N (show j < m by omega) (by omega) rj)]
          have hstep : tl fr to (j + 1) c k s = tl fr to j c k s ++ (if c (fr j) = c (to j) then [] else tl fr to j (mg c (fr j) (to j)) (k - 1) (s + 2 ^ j)) := rfl
          have hpow : 2 ^ j + 2 ^ j ≤ 2 ^ b := by
            rw [← Nat.two_mul, ← Nat.pow_succ']
            exact Nat.pow_le_pow_right (by decide) hjb
          have hs' : s + 2 ^ j = 2 ^ j * (2 ^ (b - j) * q + 1) := by
            rw [hs, Nat.mul_add, ← Nat.mul_assoc, ← Nat.pow_add, Nat.mul_one, show j + (b - j) = b by omega]
          have hor : nI s ||| (1 : Int32) <<< (nI j &&& 31) = nI (s + 2 ^ j) := by
            rw [shl1 j (by omega), fa_or]
            congr 1
            rw [hs, ← Nat.two_pow_add_eq_or_of_lt (Nat.pow_lt_pow_right (by decide) hjb)]
          by_cases z : c (fr j) = c (to j)
          · rw [if_pos z, if_neg (by decide), nI_1]
            have e : tl fr to (j + 1) c k s = tl fr to j c k s := by rw [hstep, if_pos z, List.append_nil]
            exact ih fuel (by omega) (j + 1) ρ (by omega) (by omega) rx rj (by rw [e]; exact rl) (Or.inl hjb)
          · rw [if_neg z, if_pos rfl]
            have e : T ++ tl fr to (j + 1) c k s = (T ++ tl fr to j c k s) ++ tl fr to j (mg c (fr j) (to j)) (k - 1) (s + 2 ^ j) := by rw [hstep, if_neg z, List.append_assoc]
            have hlen2 : (T ++ tl fr to (j + 1) c k s).length ≤ 1280 := by
              rw [List.length_append] at hlen ⊢
              have := tl_mono fr to c k s (show j + 1 ≤ b from hjb)
              omega
            have hT2 : ∀ t, t ∈ T ++ tl fr to j c k s → t < s + 2 ^ j := by
              intro t ht
              rcases List.mem_append.mp ht with y | y
              · exact Nat.lt_of_lt_of_le (hT t y) (Nat.le_add_right _ _)
              · exact (tl_range y).2
            by_cases h1 : 1 < k - 1
            · rw [if_pos (show (1 : Int32) < nI (k - 1) from nI_lt (a := 1) h1 (by omega))]
              obtain ⟨σ1, g1, g2, g3, g4, g5, g6⟩ := TL_join_ok hw rx hN (show j < m by omega) (show h < 7 by omega) rj
              have fr1 : FrT ρ σ1 := ⟨fun k _ => by rw [g4], fun k _ _ k3 => g6 k k3, fun k _ => by rw [g5]⟩
              have nx1 := fr1.net rx
              have l1 := TLR_keep rl g4 g5 g6
              have x2 : nI (k - 1) - 2 = nI (k - 3) := by rw [show (2 : Int32) = nI 2 from rfl, nI_sub (by omega)]; congr 1
              obtain ⟨σ2, k1, k2, k3, k4⟩ := ihd (h + 1) (k - 1) (by omega) (by omega) (by omega) j (k - 3) (s + 2 ^ j) _ (mg c (fr j) (to j)) (T ++ tl fr to j c k s) σ1 (by omega) (by omega) hs' (by omega) nx1 g2 hT2 (by rw [tl_zero fr to (k - 3) _ (k - 1) _ (Or.inl (by omega)), List.append_nil]; exact l1) (by rw [← e]; exact hlen2) (by
                by_cases y : k - 3 ≤ j
                · exact Or.inl y
                · right
                  rw [tl_zero fr to (k - 3) _ (k - 1) _ (Or.inl (by omega)), tl_zero fr to j _ (k - 1) _ (Or.inl (by omega))])
              rw [bnd_t g1, hor, x2, nI_1 h, bnd_t k1, nI_1 j]
              have keep : ∀ i, i < 8 * (h + 1) → σ2.2.1 12 i = ρ.2.1 12 i := fun i hi => (k4 i (by omega)).trans (g3 i hi)
              obtain ⟨σ3, p1, p2, p3, p4⟩ := ih fuel (by omega) (j + 1) σ2 (by omega) (by omega) (k3.net nx1) (fun v hv => by rw [keep _ (by omega)]; exact rj v hv) (by rw [e]; exact k2) (Or.inl hjb)
              exact ⟨σ3, p1, p2, (fr1.trans k3).trans p3, fun i hi => (p4 i hi).trans (keep i hi)⟩
            · have k2 : k = 2 := by omega
              rw [if_neg (show ¬ (1 : Int32) < nI (k - 1) by rw [show k - 1 = 1 by omega]; decide), hor]
              have e2 : T ++ tl fr to (j + 1) c k s = (T ++ tl fr to j c k s) ++ [s + 2 ^ j] := by rw [e, show k - 1 = 1 by omega, tl_one]
              obtain ⟨σ1, g1, g2, g3, g4⟩ := TL_add_ok rl N (show s + 2 ^ j < 2 ^ 14 by have := Nat.pow_pos (n := j) (show 0 < 2 by decide); omega) hT2 (by rw [e2, List.length_append, List.length_singleton] at hlen2; omega)
              rw [bnd_t g1, nI_1 j]
              obtain ⟨σ3, p1, p2, p3, p4⟩ := ih fuel (by omega) (j + 1) σ1 (by omega) (by omega) (g3.net rx) (fun v hv => by rw [g4]; exact rj v hv) (by rw [e2]; exact g2) (Or.inl hjb)
              exact ⟨σ3, p1, p2, g3.trans p3, fun i hi => (p4 i hi).trans (by rw [g4])⟩
    exact loop 15 N (by omega) j σ hj20 (by omega) hx hjr hl hjb
end TGR
