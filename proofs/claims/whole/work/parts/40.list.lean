/-! the class's list of trees -/
def TLR (σ : St) (T : List Nat) : Prop := σ.1 15 = nI T.length ∧ (∀ i, i < T.length → σ.2.1 6 i = nI (T.getD i 0)) ∧ WB σ 0 (fun z => decide (z ∈ T)) ∧ (∀ w, w < 256 → (∃ t, t ∈ T ∧ t / 64 = w) → σ.2.1 11 w = nI (T.countP (fun t => decide (t < 64 * w)))) ∧ T.Pairwise (· < ·) ∧ (∀ t, t ∈ T → t < 2 ^ 14) ∧ T.length ≤ 1280
/-- what the making of the list leaves as it is -/
def FrT (σ σ' : St) : Prop := (∀ k, k ≠ 15 → σ'.1 k = σ.1 k) ∧ (∀ k, k ≠ 6 → k ≠ 11 → k ≠ 12 → σ'.2.1 k = σ.2.1 k) ∧ (∀ k, k ≠ 0 → σ'.2.2 k = σ.2.2 k)
theorem FrT.rfl' (σ : St) : FrT σ σ := ⟨fun _ _ => rfl, fun _ _ _ _ => rfl, fun _ _ => rfl⟩
theorem FrT.trans {a b c : St} (h : FrT a b) (g : FrT b c) : FrT a c := ⟨fun k hk => (g.1 k hk).trans (h.1 k hk), fun k h1 h2 h3 => (g.2.1 k h1 h2 h3).trans (h.2.1 k h1 h2 h3), fun k hk => (g.2.2 k hk).trans (h.2.2 k hk)⟩
theorem FrT.net {σ σ' : St} (h : FrT σ σ') {n m root : Nat} {fr to pr dm : Nat → Nat} (hx : NX σ n m root fr to pr dm) : NX σ' n m root fr to pr dm := by
  obtain ⟨x0, x1, x2, xe, xv⟩ := hx
  refine ⟨by rw [h.1 0 (by decide)]; exact x0, by rw [h.1 1 (by decide)]; exact x1, by rw [h.1 2 (by decide)]; exact x2, ?_, ?_⟩
  · rw [h.2.1 2 (by decide) (by decide) (by decide), h.2.1 3 (by decide) (by decide) (by decide), h.2.1 4 (by decide) (by decide) (by decide)]; exact xe
  · rw [h.2.1 0 (by decide) (by decide) (by decide), h.2.1 1 (by decide) (by decide) (by decide)]; exact xv
theorem sa_same (σ : St) (k i : Nat) (v : Int32) : (sa σ k i v).2.1 k = upd (σ.2.1 k) i v := up_s _ _ _
theorem sa_ne (σ : St) {k j : Nat} (i : Nat) (v : Int32) (h : j ≠ k) : (sa σ k i v).2.1 j = σ.2.1 j := up_n _ _ h
theorem si_same (σ : St) (k : Nat) (v : Int32) : (si σ k v).1 k = v := up_s _ _ _
theorem si_ne (σ : St) {k j : Nat} (v : Int32) (h : j ≠ k) : (si σ k v).1 j = σ.1 j := up_n _ _ h
theorem TL_add_ok {σ : St} {T : List Nat} (h : TLR σ T) (N : Nat) {x : Nat} (hx : x < 2 ^ 14) (hgt : ∀ t, t ∈ T → t < x) (hlen : T.length < 1280) : ∃ σ', TL_add N (nI x) σ = some σ' ∧ TLR σ' (T ++ [x]) ∧ FrT σ σ' ∧ σ'.2.1 12 = σ.2.1 12 := by
  obtain ⟨h1, h2, h3, h4, h5, h6, h7⟩ := h
  have hP : ∀ z, (decide (z ∈ T) || decide (z = x)) = decide (z ∈ T ++ [x]) := fun z => by simp
  -- the end, from a state where the word's first is right
  have fin : ∀ ρ : St, ρ.1 = σ.1 → ρ.2.2 = σ.2.2 → (∀ k, k ≠ 11 → ρ.2.1 k = σ.2.1 k) → (∀ w, w < 256 → (∃ t, t ∈ T ++ [x] ∧ t / 64 = w) → ρ.2.1 11 w = nI ((T ++ [x]).countP (fun t => decide (t < 64 * w)))) → ∃ σ', TL_add_35 N (nI x) ρ = some σ' ∧ TLR σ' (T ++ [x]) ∧ FrT σ σ' ∧ σ'.2.1 12 = σ.2.1 12 := by
    intro ρ r1 r2 r3 r4
    unfold TL_add_35
    have hput := Bits_put_ok ρ N hx
    rw [bnd_t hput]
    have g15 : (sj ρ 0 (x / 64) (ρ.2.2 0 (x / 64) ||| lN (2 ^ (x % 64)))).1 15 = nI T.length := by show ρ.1 15 = _; rw [r1]; exact h1
    rw [g15, grd_t (inb_nI hlen (by decide)), nI_clamp (by omega)]
    unfold lt
    dsimp only
    refine ⟨_, rfl, ⟨?_, ?_, ?_, ?_, ?_, ?_, ?_⟩, ⟨?_, ?_, ?_⟩, ?_⟩
    · rw [si_same, show (sa (sj ρ 0 (x / 64) (ρ.2.2 0 (x / 64) ||| lN (2 ^ (x % 64)))) 6 T.length (nI x)).1 15 = nI T.length from g15, nI_1, List.length_append]; rfl
    · intro i hi
      rw [List.length_append, List.length_singleton] at hi
      show (sa (sj ρ 0 (x / 64) (ρ.2.2 0 (x / 64) ||| lN (2 ^ (x % 64)))) 6 T.length (nI x)).2.1 6 i = _
      rw [sa_same]
      by_cases e : i = T.length
      · rw [e, upd_s]; simp
      · rw [upd_n _ _ e]
        show ρ.2.1 6 i = _
        rw [r3 6 (by decide), h2 i (by omega)]
        congr 1
        rw [List.getD_eq_getElem?_getD, List.getD_eq_getElem?_getD, List.getElem?_append_left (by omega)]
    · have hw : WB ρ 0 (fun z => decide (z ∈ T)) := fun w hw => by rw [r2]; exact h3 w hw
      have hw2 := WB_put hw hx
      intro w hw3
      have := hw2 w hw3
      simp only [hP] at this
      exact this
    · intro w hw he
      show ρ.2.1 11 w = _
      exact r4 w hw he
    · rw [List.pairwise_append]
      exact ⟨h5, List.pairwise_singleton _ _, fun a ha b hb => by rw [List.mem_singleton.mp hb]; exact hgt a ha⟩
    · intro t ht
      rcases List.mem_append.mp ht with z | z
      · exact h6 t z
      · rw [List.mem_singleton.mp z]; exact hx
    · rw [List.length_append, List.length_singleton]; omega
    · intro k hk
      rw [si_ne _ _ hk]
      show ρ.1 k = σ.1 k
      rw [r1]
    · intro k k1 k2 k3
      show (sa (sj ρ 0 (x / 64) _) 6 T.length (nI x)).2.1 k = _
      rw [sa_ne _ _ _ k1]
      show ρ.2.1 k = _
      exact r3 k k2
    · intro k hk
      show va_up ρ.2.2 0 _ k = _
      rw [up_n _ _ hk, r2]
    · show (sa (sj ρ 0 (x / 64) _) 6 T.length (nI x)).2.1 12 = _
      rw [sa_ne _ _ _ (by decide)]
      exact r3 12 (by decide)
  have cnt : ∀ w, (T ++ [x]).countP (fun t => decide (t < 64 * w)) = T.countP (fun t => decide (t < 64 * w)) + if x < 64 * w then 1 else 0 := fun w => by rw [List.countP_append]; simp [List.countP_cons]
  unfold TL_add
  rw [h1, if_pos (show nI T.length < 1280 from (nI_ltI (b := 1280) (by omega) (by decide)).mpr hlen)]
  rcases Bits_word_ok h3 N hx with ⟨e, hno⟩ | ⟨e, b, hb, hyes⟩
  · rw [bnd_t e, if_pos rfl, sh6 (by omega), grd_t (inb_nI (by omega) (by decide)), nI_clamp (by omega)]
    unfold lt
    have hall : ∀ t, t ∈ T → t < 64 * (x / 64) := by
      intro t ht
      have h8 := hgt t ht
      refine Nat.not_le.mp fun z => ?_
      have := hno (t - 64 * (x / 64)) (by omega)
      rw [show 64 * (x / 64) + (t - 64 * (x / 64)) = t by omega] at this
      simp [ht] at this
    refine fin _ rfl rfl (fun k hk => sa_ne _ _ _ hk) (fun w hw he => ?_)
    rw [sa_same, cnt]
    by_cases ew : w = x / 64
    · rw [ew, upd_s]
      have : T.countP (fun t => decide (t < 64 * (x / 64))) = T.length := List.countP_eq_length.mpr (fun t ht => decide_eq_true (hall t ht))
      rw [this, if_neg (by omega), Nat.add_zero]
    · rw [upd_n _ _ ew]
      obtain ⟨t, ht, htw⟩ := he
      rcases List.mem_append.mp ht with z | z
      · have := hgt t z
        rw [h4 w hw ⟨t, z, htw⟩, if_neg (by omega), Nat.add_zero]
      · rw [List.mem_singleton.mp z] at htw; exact absurd htw.symm ew
  · rw [bnd_t e, if_neg (by decide)]
    have ht0 : 64 * (x / 64) + b ∈ T := of_decide_eq_true hyes
    refine fin σ rfl rfl (fun k _ => rfl) (fun w hw he => ?_)
    rw [cnt]
    obtain ⟨t, ht, htw⟩ := he
    rcases List.mem_append.mp ht with z | z
    · have := hgt t z
      rw [h4 w hw ⟨t, z, htw⟩, if_neg (by omega), Nat.add_zero]
    · rw [List.mem_singleton.mp z] at htw
      rw [h4 w hw ⟨_, ht0, by omega⟩, if_neg (by omega), Nat.add_zero]
/-- row h of what is joined tells the labels c -/
def JR (σ : St) (n h : Nat) (c : Nat → Nat) : Prop := ∀ v, v < n → σ.2.1 12 (8 * h + v) = nI (mk n (fun u => decide (c u = c v)))
section TG
variable {n m root : Nat} {fr to pr dm : Nat → Nat}
theorem TL_joined_ok {σ : St} (hw : WN n m root fr to pr dm) (hx : NX σ n m root fr to pr dm) (N : Nat) {e h : Nat} (he : e < m) (hh : h < 8) {c : Nat → Nat} (hj : JR σ n h c) : TL_areJoined N (nI e) (nI h) σ = some (if c (fr e) = c (to e) then 1 else 0) := by
  obtain ⟨hn2, hn8, hm, hroot, hE, hdm⟩ := hw
  obtain ⟨e1, e2, e3, e4⟩ := hE e he
  obtain ⟨y1, y2, y3⟩ := hx.2.2.2.1 e he
  have hb := Nat.lt_of_lt_of_le (mk_lt (fun u => decide (c u = c (fr e))) n) (Nat.pow_le_pow_right (show 0 < 2 by decide) hn8)
  unfold TL_areJoined
  rw [grd_t (inb_nI (by omega) (by decide)), grd_t (by rw [nI_clamp (by omega), y1, show (8 : Int32) = nI 8 from rfl, pk_mul, nI_add]; exact inb_nI (by omega) (by decide)), grd_t (inb_nI (by omega) (by decide)), nI_clamp (by omega), y1, y2, show (8 : Int32) = nI 8 from rfl, pk_mul, nI_add, nI_clamp (by omega), Nat.mul_comm h 8, hj (fr e) e1]
  by_cases z : c (fr e) = c (to e)
  · rw [if_neg (fun q => ?_), if_pos z]
    have := (bit0_nI (by omega) (by omega)).mp q
    rw [mk_bit] at this
    simp [e2, z] at this
  · rw [if_pos ((bit0_nI (by omega) (by omega)).mpr ?_), if_neg z]
    rw [mk_bit]
    simp [e2, Ne.symm z]
theorem TL_join_ok {σ : St} (hw : WN n m root fr to pr dm) (hx : NX σ n m root fr to pr dm) {N : Nat} (hN : 20 ≤ N) {e h : Nat} (he : e < m) (hh : h < 7) {c : Nat → Nat} (hj : JR σ n h c) : ∃ σ', TL_join N (nI e) (nI h) σ = some σ' ∧ JR σ' n (h + 1) (mg c (fr e) (to e)) ∧ (∀ i, i < 8 * (h + 1) → σ'.2.1 12 i = σ.2.1 12 i) ∧ σ'.1 = σ.1 ∧ σ'.2.2 = σ.2.2 ∧ (∀ k, k ≠ 12 → σ'.2.1 k = σ.2.1 k) := by
  obtain ⟨hn2, hn8, hm, hroot, hE, hdm⟩ := hw
  obtain ⟨e1, e2, e3, e4⟩ := hE e he
  obtain ⟨y1, y2, y3⟩ := hx.2.2.2.1 e he
  have h256 : ∀ p : Nat → Bool, mk n p < 256 := fun p => Nat.lt_of_lt_of_le (mk_lt p n) (Nat.pow_le_pow_right (show 0 < 2 by decide) hn8)
  have hor : mk n (fun u => decide (c u = c (fr e))) ||| mk n (fun u => decide (c u = c (to e))) = mk n (fun u => decide (c u = c (fr e)) || decide (c u = c (to e))) := by
    apply Nat.eq_of_testBit_eq
    intro i
    rw [Nat.testBit_or, mk_bit, mk_bit, mk_bit]
    cases decide (i < n) <;> simp
  obtain ⟨both, hboth⟩ : ∃ b, b = mk n (fun u => decide (c u = c (fr e)) || decide (c u = c (to e))) := ⟨_, rfl⟩
  have hb8 : both < 256 := by rw [hboth]; exact h256 _
  have target : ∀ v, v < n → nI (mk n (fun u => decide (mg c (fr e) (to e) u = mg c (fr e) (to e) v))) = if both.testBit v = true then nI both else nI (mk n (fun u => decide (c u = c v))) := by
    intro v hv
    have hbv : both.testBit v = (decide (c v = c (fr e)) || decide (c v = c (to e))) := by rw [hboth, mk_bit]; simp [hv]
    by_cases z : both.testBit v = true
    · rw [if_pos z, hboth]
      congr 2
      funext u
      rw [hbv, Bool.or_eq_true, decide_eq_true_eq, decide_eq_true_eq] at z
      rw [← Bool.decide_or, decide_eq_decide]
      unfold mg
      generalize c u = cu, c v = cv, c (fr e) = cf, c (to e) = ct at z ⊢
      split <;> split <;> omega
    · rw [if_neg z]
      congr 2
      funext u
      rw [hbv, Bool.or_eq_true, decide_eq_true_eq, decide_eq_true_eq] at z
      rw [decide_eq_decide]
      unfold mg
      generalize c u = cu, c v = cv, c (fr e) = cf, c (to e) = ct at z ⊢
      split <;> split <;> omega
  have loop : ∀ (d v : Nat), v + d = n → ∀ fuel, d < fuel → ∀ ρ : St, ρ.1 = σ.1 → ρ.2.2 = σ.2.2 → (∀ k, k ≠ 12 → ρ.2.1 k = σ.2.1 k) → (∀ i, i < 8 * (h + 1) → ρ.2.1 12 i = σ.2.1 12 i) → (∀ u, u < v → ρ.2.1 12 (8 * (h + 1) + u) = nI (mk n (fun w => decide (mg c (fr e) (to e) w = mg c (fr e) (to e) u)))) → ∃ σ', TL_join_43 N fuel (nI (8 * h)) (nI both) (nI v) ρ = some σ' ∧ JR σ' n (h + 1) (mg c (fr e) (to e)) ∧ (∀ i, i < 8 * (h + 1) → σ'.2.1 12 i = σ.2.1 12 i) ∧ σ'.1 = σ.1 ∧ σ'.2.2 = σ.2.2 ∧ (∀ k, k ≠ 12 → σ'.2.1 k = σ.2.1 k) := by
    intro d
    induction d with
    | zero =>
      intro v hv fuel hf ρ r1 r2 r3 r4 r5
      obtain ⟨fuel, rfl⟩ : ∃ z, fuel = z + 1 := ⟨fuel - 1, by omega⟩
      rw [TL_join_43_s, r1, hx.1, if_pos (nI_le (by omega) (by omega))]
      exact ⟨ρ, rfl, fun u hu => r5 u (by omega), r4, r1, r2, r3⟩
    | succ d ih =>
      intro v hv fuel hf ρ r1 r2 r3 r4 r5
      obtain ⟨fuel, rfl⟩ : ∃ z, fuel = z + 1 := ⟨fuel - 1, by omega⟩
      have go : ∀ val : Int32, val = nI (mk n (fun w => decide (mg c (fr e) (to e) w = mg c (fr e) (to e) v))) → ∃ σ', TL_join_43 N fuel (nI (8 * h)) (nI both) (nI (v + 1)) (sa ρ 12 (8 * (h + 1) + v) val) = some σ' ∧ JR σ' n (h + 1) (mg c (fr e) (to e)) ∧ (∀ i, i < 8 * (h + 1) → σ'.2.1 12 i = σ.2.1 12 i) ∧ σ'.1 = σ.1 ∧ σ'.2.2 = σ.2.2 ∧ (∀ k, k ≠ 12 → σ'.2.1 k = σ.2.1 k) := by
        intro val hval
        refine ih (v + 1) (by omega) fuel (by omega) (sa ρ 12 (8 * (h + 1) + v) val) r1 r2 (fun k hk => by rw [sa_ne _ _ _ hk]; exact r3 k hk) (fun i hi => by rw [sa_same, upd_n _ _ (by omega)]; exact r4 i hi) (fun u hu => ?_)
        rw [sa_same]
        by_cases z : u = v
        · rw [z, upd_s, hval]
        · rw [upd_n _ _ (by omega)]; exact r5 u (by omega)
      have i2 : nI (8 * h) + 8 + nI v = nI (8 * (h + 1) + v) := by rw [show (8 : Int32) = nI 8 from rfl, nI_add, nI_add, Nat.mul_succ]
      have gi2 : inb (nI (8 * h) + 8 + nI v) 64 = true := by rw [i2]; exact inb_nI (by omega) (by decide)
      have i1 : nI (8 * h) + nI v = nI (8 * h + v) := nI_add _ _
      have gi1 : inb (nI (8 * h) + nI v) 64 = true := by rw [i1]; exact inb_nI (by omega) (by decide)
      rw [TL_join_43_s, r1, hx.1, if_neg (nI_ge (by omega) (by omega))]
      unfold lt
      by_cases z : both.testBit v = true
      · rw [if_neg (fun q => by have := (bit0_nI (by omega) (by omega)).mp q; rw [z] at this; cases this), grd_t gi2, i2, nI_clamp (by omega), nI_1]
        exact go _ (by rw [target v (by omega), if_pos z])
      · rw [if_pos ((bit0_nI (by omega) (by omega)).mpr (Bool.eq_false_iff.mpr z)), grd_t gi1, grd_t gi2, i1, i2, nI_clamp (by omega), nI_clamp (by omega), nI_1]
        refine go _ ?_
        rw [target v (by omega), if_neg z, r4 _ (by omega)]
        exact hj v (by omega)
  unfold TL_join lt
  have f1 : nI h * 8 + nI (fr e) = nI (8 * h + fr e) := by rw [show (8 : Int32) = nI 8 from rfl, pk_mul, nI_add, Nat.mul_comm]
  have f2 : nI h * 8 + nI (to e) = nI (8 * h + to e) := by rw [show (8 : Int32) = nI 8 from rfl, pk_mul, nI_add, Nat.mul_comm]
  have f3 : nI h * 8 = nI (8 * h) := by rw [show (8 : Int32) = nI 8 from rfl, pk_mul, Nat.mul_comm]
  have gie : inb (nI e) 14 = true := inb_nI (by omega) (by decide)
  rw [grd_t gie, nI_clamp (by omega), y1, y2, f1, f2, f3, grd_t (inb_nI (by omega) (by decide)), grd_t gie, grd_t (inb_nI (by omega) (by decide)), nI_clamp (by omega), nI_clamp (by omega), hj (fr e) e1, hj (to e) e2, fa_or, hor, ← hboth]
  exact loop n 0 (by omega) N (by omega) σ rfl rfl (fun _ _ => rfl) (fun _ _ => rfl) (fun u hu => absurd hu (Nat.not_lt_zero u))
end TG
