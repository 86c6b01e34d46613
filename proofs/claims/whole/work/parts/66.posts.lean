/-! the call that begins anew -/
theorem lies_ge {i a C : Nat} (hi : i < 2 ^ 30) (ha : a < 2 ^ 30) (h : M_lies (nI i) (nI a) (nI C) = 1) : a ≤ i := by
  refine Nat.not_lt.mp fun z => ?_
  unfold M_lies at h
  rw [if_pos (nI_lt z (by omega))] at h
  exact absurd h (by decide)
theorem M_first72 {N : Nat} (K : St → Option St) : ∀ (d e : Nat), e + d = 14 → ∀ fuel, d < fuel → ∀ τ : St, (∀ a, a < e → τ.2.1 4 a = 0) → ∃ τ', M_asAtFirst_72 N K fuel (nI e) τ = K τ' ∧ τ'.1 = τ.1 ∧ (∀ a, a < 14 → τ'.2.1 4 a = 0) ∧ (∀ k, k ≠ 4 → τ'.2.1 k = τ.2.1 k) := by
  intro d
  induction d with
  | zero =>
    intro e he fuel hf τ h
    obtain ⟨fuel, rfl⟩ : ∃ z, fuel = z + 1 := ⟨fuel - 1, by omega⟩
    rw [M_asAtFirst_72_s, if_pos (show (14 : Int32) ≤ nI e from nI_le (a := 14) (by omega) (by omega))]
    exact ⟨τ, rfl, rfl, fun a ha => h a (by omega), fun _ _ => rfl⟩
  | succ d ih =>
    intro e he fuel hf τ h
    obtain ⟨fuel, rfl⟩ : ∃ z, fuel = z + 1 := ⟨fuel - 1, by omega⟩
    rw [M_asAtFirst_72_s, if_neg (show ¬ (14 : Int32) ≤ nI e from nI_ge (b := 14) (by omega) (by decide)), grd_t (inb_nI (by omega) (by decide)), nI_clamp (by omega), nI_1]
    unfold lt
    obtain ⟨τ', a1, a2, a3, a4⟩ := ih (e + 1) (by omega) fuel (by omega) (sa τ 4 e (vp_nar .boolean 0)) (fun a ha => by
      rw [sa_same]
      by_cases w : a = e
      · rw [w, upd_s]; rfl
      · rw [upd_n _ _ w]; exact h a (by omega))
    exact ⟨τ', a1, a2, a3, fun k hk => (a4 k hk).trans (sa_ne _ _ _ hk)⟩
theorem M_first43 {N : Nat} (K : Int32 → St → Option St) : ∀ (d e : Nat), e + d = 8 → ∀ fuel, d < fuel → ∀ τ : St, (∀ a, a < e → τ.2.1 5 a = nI 14 ∧ τ.2.1 6 a = nI 1) → ∃ τ', M_asAtFirst_43 N K fuel (nI e) τ = K 0 τ' ∧ τ'.1 = τ.1 ∧ (∀ a, a < 8 → τ'.2.1 5 a = nI 14 ∧ τ'.2.1 6 a = nI 1) := by
  intro d
  induction d with
  | zero =>
    intro e he fuel hf τ h
    obtain ⟨fuel, rfl⟩ : ∃ z, fuel = z + 1 := ⟨fuel - 1, by omega⟩
    rw [M_asAtFirst_43_s, if_pos (show (8 : Int32) ≤ nI e from nI_le (a := 8) (by omega) (by omega))]
    exact ⟨τ, rfl, rfl, fun a ha => h a (by omega)⟩
  | succ d ih =>
    intro e he fuel hf τ h
    obtain ⟨fuel, rfl⟩ : ∃ z, fuel = z + 1 := ⟨fuel - 1, by omega⟩
    have ge : inb (nI e) 8 = true := inb_nI (by omega) (by decide)
    rw [M_asAtFirst_43_s, if_neg (show ¬ (8 : Int32) ≤ nI e from nI_ge (b := 8) (by omega) (by decide)), grd_t ge, nI_clamp (by omega), nI_1]
    unfold lt
    dsimp only
    rw [grd_t ge]
    obtain ⟨τ', a1, a2, a3⟩ := ih (e + 1) (by omega) fuel (by omega) (sa (sa τ 5 e 14) 6 e 1) (fun a ha => by
      rw [sa_ne (j := 5) (k := 6) _ _ _ (by decide), sa_same, sa_same, sa_ne (j := 6) (k := 5) _ _ _ (by decide)]
      by_cases w : a = e
      · rw [w, upd_s, upd_s]; exact ⟨rfl, rfl⟩
      · rw [upd_n _ _ w, upd_n _ _ w]; exact h a (by omega))
    exact ⟨τ', a1, a2, a3⟩
/-- both sides as at first, with n posts -/
theorem M_first_ok {N n : Nat} (hN : 20 ≤ N) {τ : St} (h0 : τ.1 0 = nI n) : ∃ τ', M_asAtFirst N τ = some τ' ∧ IvM (fun _ => 0) (fun _ => 0) (fun _ => 0) (fun _ => 1) (fun _ => 0) (fun _ => 14) (fun _ => 0) n 0 0 7 9999 0 14 9999 τ' := by
  unfold M_asAtFirst lt
  dsimp only
  obtain ⟨τ1, a1, a2, a3⟩ := M_first43 (N := N) (M_asAtFirst_72 N (M_asAtFirst_91 N) N) 8 0 (by omega) N (by omega) (si (si (si (si (si (si (si τ 1 0) 2 0) 3 7) 4 9999) 5 0) 6 14) 7 9999) (fun a ha => absurd ha (Nat.not_lt_zero a))
  obtain ⟨τ2, b1, b2, b3, b4⟩ := M_first72 (N := N) (M_asAtFirst_91 N) 14 0 (by omega) N (by omega) τ1 (fun a ha => absurd ha (Nat.not_lt_zero a))
  refine ⟨si τ2 8 0, ?_, ⟨?_, ?_, ?_, fun e he => absurd he (Nat.not_lt_zero e), fun e he => b3 e he, fun v hv => ?_⟩, ⟨?_, ?_, ?_, ?_, ?_, fun v hv => ?_⟩, Or.inl rfl⟩
  · refine (show M_asAtFirst_43 N (M_asAtFirst_72 N (M_asAtFirst_91 N) N) N (nI 0) _ = _ from a1).trans ?_
    exact b1
  · show τ2.1 0 = _
    rw [b2, a2]; exact h0
  · show τ2.1 1 = _
    rw [b2, a2]; rfl
  · show τ2.1 2 = _
    rw [b2, a2]; rfl
  · show τ2.2.1 6 v = _
    rw [b4 6 (by decide)]; exact (a3 v hv).2
  · show τ2.1 3 = _
    rw [b2, a2]; rfl
  · show τ2.1 4 = _
    rw [b2, a2]; rfl
  · show τ2.1 5 = _
    rw [b2, a2]; rfl
  · show τ2.1 6 = _
    rw [b2, a2]; rfl
  · show τ2.1 7 = _
    rw [b2, a2]; rfl
  · show τ2.2.1 5 v = _
    rw [b4 5 (by decide)]; exact (a3 v hv).1
theorem fill_at (σ : St) {k L j : Nat} (v : Int32) (h : j < L) : (fillI σ k L v).2.1 k j = v := by
  show va_up σ.2.1 k _ k j = v
  rw [up_s, if_pos h]
theorem fill_ne (σ : St) {k L q : Nat} (v : Int32) (h : q ≠ k) : (fillI σ k L v).2.1 q = σ.2.1 q := up_n _ _ h
theorem X_first_ok (σ : St) {n : Nat} (hn : 2 ≤ n) : IvX (fun _ => 0) (fun _ => 0) (fun _ => 0) (fun _ => 1) (fun _ => 0) (fun _ => 14) (fun _ => 0) n 0 0 7 9999 0 14 9999 (LT_startAnew (nI n) σ) := by
  have hT : tl (fun _ => 0) (fun _ => 0) 0 (fun v => v) n 0 = [] := if_neg (by omega)
  unfold LT_startAnew Net_clear Lim_clear TL_clear GT_forget Bits_clear lt
  refine ⟨⟨rfl, rfl, rfl, fun e he => absurd he (Nat.not_lt_zero e), fun v hv => ⟨?_, ?_⟩⟩, ⟨rfl, rfl, rfl, rfl, rfl, rfl, ?_, fun v hv => ?_⟩, rfl, ⟨0, 0, Nat.le_refl 0, rfl, ?_, Nat.zero_le _, rfl, fun i hi => absurd hi (Nat.not_lt_zero i)⟩, Or.inl rfl⟩
  · show (if v < 8 then (1 : Int32) else σ.2.1 0 v) = nI 1
    rw [if_pos hv]; rfl
  · show (if v < 8 then (0 : Int32) else σ.2.1 1 v) = nI 0
    rw [if_pos hv]; rfl
  · show (0 : Int32) = nI (mk 8 (fun _ => decide (14 < 7)))
    decide
  · show (if v < 8 then (14 : Int32) else σ.2.1 5 v) = nI 14
    rw [if_pos hv]; rfl
  · rw [hT]
    refine ⟨rfl, fun i hi => absurd hi (Nat.not_lt_zero i), fun w hw => ?_, fun w hw he => ?_, List.Pairwise.nil, fun t ht => absurd ht List.not_mem_nil, Nat.zero_le _⟩
    · have e : (fun z => decide (z ∈ ([] : List Nat))) = fun _ => false := by funext z; simp
      have h := WB_fill σ 0 w hw
      rw [e]
      exact h
    · obtain ⟨t, ht, -⟩ := he
      exact absurd ht List.not_mem_nil
theorem W_first {n : Nat} (hn : 2 ≤ n) (hn8 : n ≤ 8) : WAll (fun _ => 0) (fun _ => 0) (fun _ => 0) (fun _ => 1) (fun _ => 0) (fun _ => 14) (fun _ => 0) n 0 0 7 9999 0 14 9999 := ⟨⟨hn, hn8, by omega, by omega, fun e he => absurd he (Nat.not_lt_zero e), fun _ _ => show 1 ≤ 99 by decide⟩, ⟨fun _ _ => show 14 ≤ 14 by decide, by decide, by decide, by decide, by decide, by decide⟩, fun _ _ => show 0 ≤ 1 by decide, fun _ _ => show 0 ≤ 1 by decide, fun _ _ => rfl⟩
theorem call_posts {σ τ : St} (hI : Inv σ τ) {N : Nat} (hN : 20000 ≤ N) (x : Int32) : Both (some (LT_posts x σ)) (M_posts N x τ) := by
  unfold LT_posts M_posts
  rw [within_lies, show (2 : Int32) = nI 2 from rfl, show (8 : Int32) = nI 8 from rfl]
  rcases lies_from (a := 2) (C := 8) (by decide) (by decide) x with z | ⟨i, hi, rfl, z⟩
  · rw [z, if_pos rfl, if_pos rfl]
    exact ⟨_, _, _, rfl, rfl, hI⟩
  · have h2 := lies_ge (show i < 2 ^ 30 by omega) (by decide) z
    rw [z, if_neg (show ¬ (1 : Int32) = 0 by decide), if_neg (show ¬ (1 : Int32) = 0 by decide)]
    unfold lt
    obtain ⟨τ', a1, a2⟩ := M_first_ok (N := N) (n := i) (show 20 ≤ N by omega) (τ := si τ 0 (nI i)) (si_same _ _ _)
    refine ⟨1, LT_startAnew (nI i) σ, τ', rfl, ?_, _, _, _, _, _, _, _, _, _, _, _, _, _, _, _, W_first h2 hi, X_first_ok σ h2, a2⟩
    dsimp only
    rw [bnd_t a1]
