/-! the most trees of any net that the class can hold -/
theorem tc_tight : ∀ (L : List (Nat × Nat)) (c : Nat → Nat) (k : Nat), L.length + 1 = k → tc L c k ≤ 1 := by
  intro L
  induction L with
  | nil => intro c k h; unfold tc; split <;> omega
  | cons e L ih =>
    intro c k h
    rw [List.length_cons] at h
    unfold tc
    rw [tc_few L c k (by omega)]
    have := ih (mg c e.1 e.2) (k - 1) (by omega)
    split <;> omega
theorem lev_tight {n : Nat} (hn : 0 < n) : Lev n (n - 1) 2 [] := fun L hl _ ht => absurd (tc_tight L (fun v => v) n (by omega)) (by omega)
theorem ls2_1 : Lev 2 1 2 [] := lev_tight (by decide)
theorem ls2_2 : Lev 2 2 3 [] := lev_step (T := []) (th := 2) (by decide) (by decide) (by decide) ls2_1 (by decide) (fun _ h => absurd h List.not_mem_nil)
theorem ls2_3 : Lev 2 3 4 [] := lev_step (T := []) (th := 3) (by decide) (by decide) (by decide) ls2_2 (by decide) (fun _ h => absurd h List.not_mem_nil)
theorem ls2_4 : Lev 2 4 5 [] := lev_step (T := []) (th := 4) (by decide) (by decide) (by decide) ls2_3 (by decide) (fun _ h => absurd h List.not_mem_nil)
theorem ls2_5 : Lev 2 5 6 [] := lev_step (T := []) (th := 5) (by decide) (by decide) (by decide) ls2_4 (by decide) (fun _ h => absurd h List.not_mem_nil)
theorem ls2_6 : Lev 2 6 7 [] := lev_step (T := []) (th := 6) (by decide) (by decide) (by decide) ls2_5 (by decide) (fun _ h => absurd h List.not_mem_nil)
theorem ls2_7 : Lev 2 7 8 [] := lev_step (T := []) (th := 7) (by decide) (by decide) (by decide) ls2_6 (by decide) (fun _ h => absurd h List.not_mem_nil)
theorem ls2_8 : Lev 2 8 9 [] := lev_step (T := []) (th := 8) (by decide) (by decide) (by decide) ls2_7 (by decide) (fun _ h => absurd h List.not_mem_nil)
theorem ls2_9 : Lev 2 9 10 [] := lev_step (T := []) (th := 9) (by decide) (by decide) (by decide) ls2_8 (by decide) (fun _ h => absurd h List.not_mem_nil)
theorem ls2_10 : Lev 2 10 11 [] := lev_step (T := []) (th := 10) (by decide) (by decide) (by decide) ls2_9 (by decide) (fun _ h => absurd h List.not_mem_nil)
theorem ls2_11 : Lev 2 11 12 [] := lev_step (T := []) (th := 11) (by decide) (by decide) (by decide) ls2_10 (by decide) (fun _ h => absurd h List.not_mem_nil)
theorem ls2_12 : Lev 2 12 13 [] := lev_step (T := []) (th := 12) (by decide) (by decide) (by decide) ls2_11 (by decide) (fun _ h => absurd h List.not_mem_nil)
theorem ls2_13 : Lev 2 13 14 [] := lev_step (T := []) (th := 13) (by decide) (by decide) (by decide) ls2_12 (by decide) (fun _ h => absurd h List.not_mem_nil)
theorem ls2_14 : Lev 2 14 15 [] := lev_step (T := []) (th := 14) (by decide) (by decide) (by decide) ls2_13 (by decide) (fun _ h => absurd h List.not_mem_nil)
theorem most_2 {L : List (Nat × Nat)} (hl : L.length = 14) (hok : okL 2 L) : tc L (fun v => v) 2 ≤ 1280 := Nat.le_trans (Nat.le_of_lt_succ (lev_none ls2_14 hl hok)) (by decide)
theorem ls3_2 : Lev 3 2 2 [] := lev_tight (by decide)
theorem ls3_3 : Lev 3 3 4 [] := lev_step (T := []) (th := 2) (by decide) (by decide) (by decide) ls3_2 (by decide) (fun _ h => absurd h List.not_mem_nil)
theorem ls3_4 : Lev 3 4 7 [] := lev_step (T := []) (th := 4) (by decide) (by decide) (by decide) ls3_3 (by decide) (fun _ h => absurd h List.not_mem_nil)
theorem ls3_5 : Lev 3 5 11 [] := lev_step (T := []) (th := 7) (by decide) (by decide) (by decide) ls3_4 (by decide) (fun _ h => absurd h List.not_mem_nil)
theorem ls3_6 : Lev 3 6 16 [] := lev_step (T := []) (th := 11) (by decide) (by decide) (by decide) ls3_5 (by decide) (fun _ h => absurd h List.not_mem_nil)
theorem ls3_7 : Lev 3 7 22 [] := lev_step (T := []) (th := 16) (by decide) (by decide) (by decide) ls3_6 (by decide) (fun _ h => absurd h List.not_mem_nil)
theorem ls3_8 : Lev 3 8 29 [] := lev_step (T := []) (th := 22) (by decide) (by decide) (by decide) ls3_7 (by decide) (fun _ h => absurd h List.not_mem_nil)
theorem ls3_9 : Lev 3 9 37 [] := lev_step (T := []) (th := 29) (by decide) (by decide) (by decide) ls3_8 (by decide) (fun _ h => absurd h List.not_mem_nil)
theorem ls3_10 : Lev 3 10 46 [] := lev_step (T := []) (th := 37) (by decide) (by decide) (by decide) ls3_9 (by decide) (fun _ h => absurd h List.not_mem_nil)
theorem ls3_11 : Lev 3 11 56 [] := lev_step (T := []) (th := 46) (by decide) (by decide) (by decide) ls3_10 (by decide) (fun _ h => absurd h List.not_mem_nil)
theorem ls3_12 : Lev 3 12 67 [] := lev_step (T := []) (th := 56) (by decide) (by decide) (by decide) ls3_11 (by decide) (fun _ h => absurd h List.not_mem_nil)
theorem ls3_13 : Lev 3 13 79 [] := lev_step (T := []) (th := 67) (by decide) (by decide) (by decide) ls3_12 (by decide) (fun _ h => absurd h List.not_mem_nil)
theorem ls3_14 : Lev 3 14 92 [] := lev_step (T := []) (th := 79) (by decide) (by decide) (by decide) ls3_13 (by decide) (fun _ h => absurd h List.not_mem_nil)
theorem most_3 {L : List (Nat × Nat)} (hl : L.length = 14) (hok : okL 3 L) : tc L (fun v => v) 3 ≤ 1280 := Nat.le_trans (Nat.le_of_lt_succ (lev_none ls3_14 hl hok)) (by decide)
theorem ls4_3 : Lev 4 3 2 [] := lev_tight (by decide)
theorem ls4_4 : Lev 4 4 5 [] := lev_step (T := []) (th := 2) (by decide) (by decide) (by decide) ls4_3 (by decide) (fun _ h => absurd h List.not_mem_nil)
theorem ls4_5 : Lev 4 5 11 [] := lev_step (T := []) (th := 5) (by decide) (by decide) (by decide) ls4_4 (by decide) (fun _ h => absurd h List.not_mem_nil)
theorem ls4_6 : Lev 4 6 21 [] := lev_step (T := []) (th := 11) (by decide) (by decide) (by decide) ls4_5 (by decide) (fun _ h => absurd h List.not_mem_nil)
theorem ls4_7 : Lev 4 7 36 [] := lev_step (T := []) (th := 21) (by decide) (by decide) (by decide) ls4_6 (by decide) (fun _ h => absurd h List.not_mem_nil)
theorem ls4_8 : Lev 4 8 57 [] := lev_step (T := []) (th := 36) (by decide) (by decide) (by decide) ls4_7 (by decide) (fun _ h => absurd h List.not_mem_nil)
theorem ls4_9 : Lev 4 9 85 [] := lev_step (T := []) (th := 57) (by decide) (by decide) (by decide) ls4_8 (by decide) (fun _ h => absurd h List.not_mem_nil)
theorem ls4_10 : Lev 4 10 121 [] := lev_step (T := []) (th := 85) (by decide) (by decide) (by decide) ls4_9 (by decide) (fun _ h => absurd h List.not_mem_nil)
theorem ls4_11 : Lev 4 11 166 [] := lev_step (T := []) (th := 121) (by decide) (by decide) (by decide) ls4_10 (by decide) (fun _ h => absurd h List.not_mem_nil)
theorem ls4_12 : Lev 4 12 221 [] := lev_step (T := []) (th := 166) (by decide) (by decide) (by decide) ls4_11 (by decide) (fun _ h => absurd h List.not_mem_nil)
theorem ls4_13 : Lev 4 13 287 [] := lev_step (T := []) (th := 221) (by decide) (by decide) (by decide) ls4_12 (by decide) (fun _ h => absurd h List.not_mem_nil)
theorem ls4_14 : Lev 4 14 365 [] := lev_step (T := []) (th := 287) (by decide) (by decide) (by decide) ls4_13 (by decide) (fun _ h => absurd h List.not_mem_nil)
theorem most_4 {L : List (Nat × Nat)} (hl : L.length = 14) (hok : okL 4 L) : tc L (fun v => v) 4 ≤ 1280 := Nat.le_trans (Nat.le_of_lt_succ (lev_none ls4_14 hl hok)) (by decide)
theorem ls5_4 : Lev 5 4 2 [] := lev_tight (by decide)
theorem ls5_5 : Lev 5 5 6 [] := lev_step (T := []) (th := 2) (by decide) (by decide) (by decide) ls5_4 (by decide) (fun _ h => absurd h List.not_mem_nil)
theorem ls5_6 : Lev 5 6 16 [] := lev_step (T := []) (th := 6) (by decide) (by decide) (by decide) ls5_5 (by decide) (fun _ h => absurd h List.not_mem_nil)
theorem ls5_7 : Lev 5 7 36 [] := lev_step (T := []) (th := 16) (by decide) (by decide) (by decide) ls5_6 (by decide) (fun _ h => absurd h List.not_mem_nil)
theorem ls5_8 : Lev 5 8 71 [] := lev_step (T := []) (th := 36) (by decide) (by decide) (by decide) ls5_7 (by decide) (fun _ h => absurd h List.not_mem_nil)
theorem ls5_9 : Lev 5 9 127 [] := lev_step (T := []) (th := 71) (by decide) (by decide) (by decide) ls5_8 (by decide) (fun _ h => absurd h List.not_mem_nil)
theorem ls5_10 : Lev 5 10 211 [] := lev_step (T := []) (th := 127) (by decide) (by decide) (by decide) ls5_9 (by decide) (fun _ h => absurd h List.not_mem_nil)
theorem ls5_11 : Lev 5 11 331 [] := lev_step (T := []) (th := 211) (by decide) (by decide) (by decide) ls5_10 (by decide) (fun _ h => absurd h List.not_mem_nil)
theorem ls5_12 : Lev 5 12 496 [] := lev_step (T := []) (th := 331) (by decide) (by decide) (by decide) ls5_11 (by decide) (fun _ h => absurd h List.not_mem_nil)
theorem ls5_13 : Lev 5 13 716 [] := lev_step (T := []) (th := 496) (by decide) (by decide) (by decide) ls5_12 (by decide) (fun _ h => absurd h List.not_mem_nil)
theorem ls5_14 : Lev 5 14 1002 [] := lev_step (T := []) (th := 716) (by decide) (by decide) (by decide) ls5_13 (by decide) (fun _ h => absurd h List.not_mem_nil)
theorem most_5 {L : List (Nat × Nat)} (hl : L.length = 14) (hok : okL 5 L) : tc L (fun v => v) 5 ≤ 1280 := Nat.le_trans (Nat.le_of_lt_succ (lev_none ls5_14 hl hok)) (by decide)
theorem tc_grow (L : List (Nat × Nat)) (n : Nat) : ∀ k, tc L (fun v => v) n ≤ tc (List.replicate k (0, 1) ++ L) (fun v => v) n := by
  intro k
  induction k with
  | zero => exact Nat.le_refl _
  | succ k ih =>
    rw [List.replicate_succ, List.cons_append]
    conv => rhs; unfold tc
    omega
theorem most_tc {n : Nat} (h2 : 2 ≤ n) (h8 : n ≤ 8) {L : List (Nat × Nat)} (hl : L.length ≤ 14) (hok : okL n L) : tc L (fun v => v) n ≤ 1280 := by
  have h1 := tc_grow L n (14 - L.length)
  have hl' : (List.replicate (14 - L.length) (0, 1) ++ L).length = 14 := by rw [List.length_append, List.length_replicate]; omega
  have hok' : okL n (List.replicate (14 - L.length) (0, 1) ++ L) := by
    intro e he
    rcases List.mem_append.mp he with h | h
    · have := (List.mem_replicate.mp h).2
      subst this
      exact ⟨by show 0 < n; omega, by show 1 < n; omega, by decide⟩
    · exact hok e h
  refine Nat.le_trans h1 ?_
  rcases (show n = 2 ∨ n = 3 ∨ n = 4 ∨ n = 5 ∨ n = 6 ∨ n = 7 ∨ n = 8 by omega) with rfl | rfl | rfl | rfl | rfl | rfl | rfl
  · exact most_2 hl' hok'
  · exact most_3 hl' hok'
  · exact most_4 hl' hok'
  · exact most_5 hl' hok'
  · exact most_6 hl' hok'
  · exact most_7 hl' hok'
  · exact most_8 hl' hok'
def edl (fr to : Nat → Nat) : Nat → List (Nat × Nat)
  | 0 => []
  | j + 1 => (fr j, to j) :: edl fr to j
theorem edl_len (fr to : Nat → Nat) : ∀ j, (edl fr to j).length = j := by
  intro j
  induction j with
  | zero => rfl
  | succ j ih => show (edl fr to j).length + 1 = j + 1; rw [ih]
theorem edl_mem {fr to : Nat → Nat} : ∀ {j : Nat} {e : Nat × Nat}, e ∈ edl fr to j → ∃ i, i < j ∧ e = (fr i, to i) := by
  intro j
  induction j with
  | zero => intro e h; cases h
  | succ j ih =>
    intro e h
    rcases List.mem_cons.mp h with rfl | h
    · exact ⟨j, Nat.lt_succ_self j, rfl⟩
    · obtain ⟨i, hi, e⟩ := ih h; exact ⟨i, Nat.lt_succ_of_lt hi, e⟩
theorem tl_len (fr to : Nat → Nat) : ∀ (j : Nat) (c : Nat → Nat) (k s : Nat), (tl fr to j c k s).length = tc (edl fr to j) c k := by
  intro j
  induction j with
  | zero =>
    intro c k s
    show (if k = 1 then [s] else []).length = if k = 1 then 1 else 0
    split <;> rfl
  | succ j ih =>
    intro c k s
    show (tl fr to j c k s ++ (if c (fr j) = c (to j) then [] else tl fr to j (mg c (fr j) (to j)) (k - 1) (s + 2 ^ j))).length = tc (edl fr to j) c k + (if c (fr j) = c (to j) then 0 else tc (edl fr to j) (mg c (fr j) (to j)) (k - 1))
    rw [List.length_append, ih]
    congr 1
    split
    · rfl
    · exact ih _ _ _
theorem most {fr to : Nat → Nat} {n m : Nat} (h2 : 2 ≤ n) (h8 : n ≤ 8) (hm : m ≤ 14) (h : ∀ e, e < m → fr e < n ∧ to e < n ∧ fr e ≠ to e) : (tl fr to m (fun v => v) n 0).length ≤ 1280 := by
  rw [tl_len]
  refine most_tc h2 h8 (by rw [edl_len]; exact hm) (fun e he => ?_)
  obtain ⟨i, hi, rfl⟩ := edl_mem he
  exact h i hi
