/-! bits of small numbers: counts, the lowest one, shifts -/
def pck (k a : Nat) : Nat := fb_ct (fun e => a.testBit e) k
theorem and16 {a b c d : Nat} (hb : b < 16) (hd : d < 16) : (16 * a + b) &&& (16 * c + d) = 16 * (a &&& c) + (b &&& d) := by
  have h1 : (b &&& d) < 2 ^ 4 := Nat.lt_of_le_of_lt Nat.and_le_left hb
  apply Nat.eq_of_testBit_eq
  intro i
  rw [Nat.testBit_and, show (16 : Nat) = 2 ^ 4 from rfl, Nat.testBit_two_pow_mul_add a hb i, Nat.testBit_two_pow_mul_add c hd i, Nat.testBit_two_pow_mul_add (a &&& c) h1 i]
  split
  · rw [Nat.testBit_and]
  · rw [Nat.testBit_and]
theorem and256 {a b c d : Nat} (hb : b < 256) (hd : d < 256) : (256 * a + b) &&& (256 * c + d) = 256 * (a &&& c) + (b &&& d) := by
  have h1 : (b &&& d) < 2 ^ 8 := Nat.lt_of_le_of_lt Nat.and_le_left hb
  apply Nat.eq_of_testBit_eq
  intro i
  rw [Nat.testBit_and, show (256 : Nat) = 2 ^ 8 from rfl, Nat.testBit_two_pow_mul_add a hb i, Nat.testBit_two_pow_mul_add c hd i, Nat.testBit_two_pow_mul_add (a &&& c) h1 i]
  split
  · rw [Nat.testBit_and]
  · rw [Nat.testBit_and]
def m5 : Nat → Nat
  | 0 => 0
  | k + 1 => 16 * m5 k + 5
def m3 : Nat → Nat
  | 0 => 0
  | k + 1 => 16 * m3 k + 3
def mf : Nat → Nat
  | 0 => 0
  | k + 1 => 256 * mf k + 15
def np : Nat → Nat → Nat
  | 0, _ => 0
  | k + 1, x => 16 * np k (x / 16) + pck 4 (x % 16)
def bp : Nat → Nat → Nat
  | 0, _ => 0
  | k + 1, x => 256 * bp k (x / 256) + pck 8 (x % 256)
theorem nib1 : ∀ c, c < 2 → ∀ l, l < 16 → (8 * c + l / 2) &&& 5 = (l / 2) &&& 5 := by decide +kernel
theorem nib2 : ∀ c, c < 4 → ∀ b, b < 16 → (4 * c + b / 4) &&& 3 = (b / 4) &&& 3 := by decide +kernel
theorem nib3 : ∀ l, l < 16 → ((l - ((l / 2) &&& 5)) &&& 3) + (((l - ((l / 2) &&& 5)) / 4) &&& 3) = pck 4 l := by decide +kernel
theorem st1 (k h l : Nat) (hl : l < 16) : (16 * h + l) - (((16 * h + l) / 2) &&& m5 (k + 1)) = 16 * (h - ((h / 2) &&& m5 k)) + (l - ((l / 2) &&& 5)) := by
  have e : (16 * h + l) / 2 = 16 * (h / 2) + (8 * (h % 2) + l / 2) := by omega
  rw [e, m5, and16 (by omega) (by decide), nib1 (h % 2) (by omega) l hl]
  have h1 : (h / 2) &&& m5 k ≤ h / 2 := Nat.and_le_left
  have h2 : (l / 2) &&& 5 ≤ l / 2 := Nat.and_le_left
  omega
theorem st2 (k a b : Nat) (hb : b < 16) : ((16 * a + b) &&& m3 (k + 1)) + (((16 * a + b) / 4) &&& m3 (k + 1)) = 16 * ((a &&& m3 k) + ((a / 4) &&& m3 k)) + ((b &&& 3) + ((b / 4) &&& 3)) := by
  have e : (16 * a + b) / 4 = 16 * (a / 4) + (4 * (a % 4) + b / 4) := by omega
  rw [e, m3, and16 hb (by decide), and16 (by omega) (by decide), nib2 (a % 4) (by omega) b hb]
  omega
theorem st12 : ∀ (k x : Nat), x < 16 ^ k → ((x - ((x / 2) &&& m5 k)) &&& m3 k) + (((x - ((x / 2) &&& m5 k)) / 4) &&& m3 k) = np k x := by
  intro k
  induction k with
  | zero => intro x hx; simp [m3, np]
  | succ k ih =>
    intro x hx
    have hd : 16 * (x / 16) + x % 16 = x := Nat.div_add_mod x 16
    have hl : x % 16 < 16 := Nat.mod_lt _ (by decide)
    have hh : x / 16 < 16 ^ k := by rw [Nat.pow_succ] at hx; omega
    have h1 := st1 k (x / 16) (x % 16) hl
    rw [hd] at h1
    rw [h1, st2 k _ _ (by omega), ih _ hh, nib3 _ hl, np]
theorem pck4 : ∀ l, l < 16 → pck 4 l ≤ 4 := fun l _ => fb_ct_le _ 4
theorem pck_split (m n x : Nat) : pck (m + n) x = pck m (x % 2 ^ m) + pck n (x / 2 ^ m) := by
  unfold pck
  rw [fb_ct_split]
  congr 1
  · exact fb_ct_cong (fun k hk => by rw [Nat.testBit_mod_two_pow]; simp [hk])
  · exact fb_ct_cong (fun k hk => by rw [Nat.testBit_div_two_pow, Nat.add_comm])
theorem np_mod (k x : Nat) : np k x % 16 ≤ 4 := by
  cases k with
  | zero => simp [np]
  | succ k => rw [np]; have := pck4 (x % 16) (Nat.mod_lt _ (by decide)); omega
theorem np_two (j x : Nat) : np (2 * (j + 1)) x = 256 * np (2 * j) (x / 256) + 16 * pck 4 (x / 16 % 16) + pck 4 (x % 16) := by
  rw [show 2 * (j + 1) = 2 * j + 1 + 1 by omega, np, np, Nat.div_div_eq_div_mul, show 16 * 16 = 256 from rfl]
  omega
theorem st3 : ∀ (j x : Nat), x < 256 ^ j → (np (2 * j) x + np (2 * j) x / 16) &&& mf j = bp j x := by
  intro j
  induction j with
  | zero => intro x hx; simp [mf, bp]
  | succ j ih =>
    intro x hx
    have hh : x / 256 < 256 ^ j := by rw [Nat.pow_succ] at hx; omega
    rw [np_two, bp, mf]
    have hu : pck 4 (x / 16 % 16) ≤ 4 := pck4 _ (Nat.mod_lt _ (by decide))
    have hv : pck 4 (x % 16) ≤ 4 := pck4 _ (Nat.mod_lt _ (by decide))
    have hY := np_mod (2 * j) (x / 256)
    have hs : pck 8 (x % 256) = pck 4 (x % 16) + pck 4 (x / 16 % 16) := by
      rw [pck_split 4 4]
      congr 2 <;> omega
    have ihh := ih _ hh
    generalize np (2 * j) (x / 256) = Y at *
    generalize pck 4 (x / 16 % 16) = u at *
    generalize pck 4 (x % 16) = v at *
    have e : 256 * Y + 16 * u + v + (256 * Y + 16 * u + v) / 16 = 256 * (Y + Y / 16) + (16 * (Y % 16 + u) + (u + v)) := by omega
    rw [e, and256 (by omega) (by decide), ihh, hs]
    have e2 : (16 * (Y % 16 + u) + (u + v)) &&& 15 = u + v := by
      rw [show (15 : Nat) = 2 ^ 4 - 1 from rfl, Nat.and_two_pow_sub_one_eq_mod]; omega
    rw [e2]; omega
theorem pck8 (x : Nat) : pck 8 x ≤ 8 := fb_ct_le _ 8
theorem bc_nat {x : Nat} (hx : x < 2 ^ 32) : (bp 4 x + bp 4 x / 256 + (bp 4 x + bp 4 x / 256) / 65536) % 64 = pck 32 x := by
  have e : pck 32 x = pck 8 (x % 256) + (pck 8 (x / 256 % 256) + (pck 8 (x / 65536 % 256) + pck 8 (x / 16777216 % 256))) := by
    rw [pck_split 8 24, pck_split 8 16, pck_split 8 8]
    simp only [Nat.div_div_eq_div_mul]
    congr 4
    omega
  rw [e]
  simp only [bp, Nat.div_div_eq_div_mul, Nat.mul_zero, Nat.zero_add, Nat.reduceMul]
  have h0 := pck8 (x % 256); have h1 := pck8 (x / 256 % 256); have h2 := pck8 (x / 65536 % 256); have h3 := pck8 (x / 16777216 % 256)
  generalize pck 8 (x % 256) = a0 at *
  generalize pck 8 (x / 256 % 256) = a1 at *
  generalize pck 8 (x / 65536 % 256) = a2 at *
  generalize pck 8 (x / 16777216 % 256) = a3 at *
  clear e hx
  have y1 : (256 * (256 * (256 * a3 + a2) + a1) + a0) / 256 = 256 * (256 * a3 + a2) + a1 := by omega
  rw [y1]
  have y2 : (256 * (256 * (256 * a3 + a2) + a1) + a0 + (256 * (256 * a3 + a2) + a1)) / 65536 = 256 * a3 + (a2 + a3) := by omega
  rw [y2]
  omega
theorem bcl_n1 (U a0 a1 a2 a3 : Nat) (h0 : a0 ≤ 8) (h1 : a1 ≤ 8) (h2 : a2 ≤ 8) (h3 : a3 ≤ 8) : (256 * (256 * (256 * (256 * U + a3) + a2) + a1) + a0) / 256 = 256 * (256 * (256 * U + a3) + a2) + a1 := by omega
theorem bcl_n2 (V a0 a1 a2 : Nat) (h0 : a0 ≤ 8) (h1 : a1 ≤ 8) (h2 : a2 ≤ 8) : (256 * (256 * (256 * V + a2) + a1) + a0 + (256 * (256 * V + a2) + a1)) / 65536 = (256 * V + a2) + V := by omega
theorem bcl_n3 (U3 a0 a1 a2 a3 a4 a5 a6 : Nat) (h0 : a0 ≤ 8) (h1 : a1 ≤ 8) (h2 : a2 ≤ 8) (h3 : a3 ≤ 8) (h4 : a4 ≤ 8) (h5 : a5 ≤ 8) (h6 : a6 ≤ 8) : (4294967296 * (16777216 * U3 + 65536 * a6 + 256 * a5 + a4) + 16777216 * (16777216 * U3 + 65536 * a6 + 256 * a5 + a4) + 65536 * (16777216 * U3 + 65536 * a6 + 256 * a5 + a4) + 256 * (16777216 * U3 + 65536 * a6 + 256 * a5 + a4) + (16777216 * a3 + 65536 * (a2 + a3) + 256 * (a1 + a2 + a3) + (a0 + a1 + a2 + a3))) / 4294967296 = (16777216 * U3 + 65536 * a6 + 256 * a5 + a4) + (65536 * U3 + 256 * a6 + a5) + (256 * U3 + a6) + U3 := by
  have e : 4294967296 * (16777216 * U3 + 65536 * a6 + 256 * a5 + a4) + 16777216 * (16777216 * U3 + 65536 * a6 + 256 * a5 + a4) + 65536 * (16777216 * U3 + 65536 * a6 + 256 * a5 + a4) + 256 * (16777216 * U3 + 65536 * a6 + 256 * a5 + a4) + (16777216 * a3 + 65536 * (a2 + a3) + 256 * (a1 + a2 + a3) + (a0 + a1 + a2 + a3)) = 4294967296 * ((16777216 * U3 + 65536 * a6 + 256 * a5 + a4) + (65536 * U3 + 256 * a6 + a5) + (256 * U3 + a6) + U3) + (16777216 * (a4 + a5 + a6 + a3) + 65536 * (a4 + a5 + a2 + a3) + 256 * (a4 + a1 + a2 + a3) + (a0 + a1 + a2 + a3)) := by omega
  rw [e, Nat.mul_add_div (by decide)]
  have z : (16777216 * (a4 + a5 + a6 + a3) + 65536 * (a4 + a5 + a2 + a3) + 256 * (a4 + a1 + a2 + a3) + (a0 + a1 + a2 + a3)) / 4294967296 = 0 := Nat.div_eq_of_lt (by omega)
  rw [z, Nat.add_zero]
theorem bcl_num (a0 a1 a2 a3 a4 a5 a6 a7 : Nat) (h0 : a0 ≤ 8) (h1 : a1 ≤ 8) (h2 : a2 ≤ 8) (h3 : a3 ≤ 8) (h4 : a4 ≤ 8) (h5 : a5 ≤ 8) (h6 : a6 ≤ 8) (h7 : a7 ≤ 8) :
    let y := 256 * (256 * (256 * (256 * (256 * (256 * (256 * a7 + a6) + a5) + a4) + a3) + a2) + a1) + a0
    ((y + y / 256 + (y + y / 256) / 65536) + (y + y / 256 + (y + y / 256) / 65536) / 4294967296) % 128 = a0 + (a1 + (a2 + (a3 + (a4 + (a5 + (a6 + a7)))))) := by
  intro y
  have y1 : y / 256 = 256 * (256 * (256 * (256 * (256 * (256 * a7 + a6) + a5) + a4) + a3) + a2) + a1 := bcl_n1 (256 * (256 * (256 * a7 + a6) + a5) + a4) a0 a1 a2 a3 h0 h1 h2 h3
  have y2 : (y + y / 256) / 65536 = (256 * (256 * (256 * (256 * (256 * a7 + a6) + a5) + a4) + a3) + a2) + (256 * (256 * (256 * (256 * a7 + a6) + a5) + a4) + a3) := by rw [y1]; exact bcl_n2 (256 * (256 * (256 * (256 * a7 + a6) + a5) + a4) + a3) a0 a1 a2 h0 h1 h2
  rw [y2, y1]
  have y3 : y + (256 * (256 * (256 * (256 * (256 * (256 * a7 + a6) + a5) + a4) + a3) + a2) + a1) + (256 * (256 * (256 * (256 * (256 * a7 + a6) + a5) + a4) + a3) + a2 + (256 * (256 * (256 * (256 * a7 + a6) + a5) + a4) + a3)) = 4294967296 * (16777216 * a7 + 65536 * a6 + 256 * a5 + a4) + 16777216 * (16777216 * a7 + 65536 * a6 + 256 * a5 + a4) + 65536 * (16777216 * a7 + 65536 * a6 + 256 * a5 + a4) + 256 * (16777216 * a7 + 65536 * a6 + 256 * a5 + a4) + (16777216 * a3 + 65536 * (a2 + a3) + 256 * (a1 + a2 + a3) + (a0 + a1 + a2 + a3)) := by
    show 256 * (256 * (256 * (256 * (256 * (256 * (256 * a7 + a6) + a5) + a4) + a3) + a2) + a1) + a0 + _ + _ = _
    omega
  rw [y3, bcl_n3 a7 a0 a1 a2 a3 a4 a5 a6 h0 h1 h2 h3 h4 h5 h6]
  have e : 4294967296 * (16777216 * a7 + 65536 * a6 + 256 * a5 + a4) + 16777216 * (16777216 * a7 + 65536 * a6 + 256 * a5 + a4) + 65536 * (16777216 * a7 + 65536 * a6 + 256 * a5 + a4) + 256 * (16777216 * a7 + 65536 * a6 + 256 * a5 + a4) + (16777216 * a3 + 65536 * (a2 + a3) + 256 * (a1 + a2 + a3) + (a0 + a1 + a2 + a3)) + (16777216 * a7 + 65536 * a6 + 256 * a5 + a4 + (65536 * a7 + 256 * a6 + a5) + (256 * a7 + a6) + a7) = 128 * (33554432 * (16777216 * a7 + 65536 * a6 + 256 * a5 + a4) + 131072 * (16777216 * a7 + 65536 * a6 + 256 * a5 + a4) + 512 * (16777216 * a7 + 65536 * a6 + 256 * a5 + a4) + 2 * (16777216 * a7 + 65536 * a6 + 256 * a5 + a4) + 131072 * a3 + 512 * (a2 + a3) + 2 * (a1 + a2 + a3) + (131072 * a7 + 512 * a6 + 2 * a5) + (512 * a7 + 2 * a6) + 2 * a7) + (a0 + (a1 + (a2 + (a3 + (a4 + (a5 + (a6 + a7))))))) := by omega
  rw [e, Nat.mul_add_mod]
  exact Nat.mod_eq_of_lt (by omega)
theorem bcl_nat {x : Nat} (hx : x < 2 ^ 64) : ((bp 8 x + bp 8 x / 256 + (bp 8 x + bp 8 x / 256) / 65536) + (bp 8 x + bp 8 x / 256 + (bp 8 x + bp 8 x / 256) / 65536) / 4294967296) % 128 = pck 64 x := by
  have e : pck 64 x = pck 8 (x % 256) + (pck 8 (x / 256 % 256) + (pck 8 (x / 65536 % 256) + (pck 8 (x / 16777216 % 256) + (pck 8 (x / 4294967296 % 256) + (pck 8 (x / 1099511627776 % 256) + (pck 8 (x / 281474976710656 % 256) + pck 8 (x / 72057594037927936 % 256))))))) := by
    rw [pck_split 8 56, pck_split 8 48, pck_split 8 40, pck_split 8 32, pck_split 8 24, pck_split 8 16, pck_split 8 8]
    simp only [Nat.div_div_eq_div_mul]
    congr 8
    omega
  rw [e]
  simp only [bp, Nat.div_div_eq_div_mul, Nat.mul_zero, Nat.zero_add, Nat.reduceMul]
  have h0 := pck8 (x % 256); have h1 := pck8 (x / 256 % 256); have h2 := pck8 (x / 65536 % 256); have h3 := pck8 (x / 16777216 % 256)
  have h4 := pck8 (x / 4294967296 % 256); have h5 := pck8 (x / 1099511627776 % 256); have h6 := pck8 (x / 281474976710656 % 256); have h7 := pck8 (x / 72057594037927936 % 256)
  generalize pck 8 (x % 256) = a0 at *
  generalize pck 8 (x / 256 % 256) = a1 at *
  generalize pck 8 (x / 65536 % 256) = a2 at *
  generalize pck 8 (x / 16777216 % 256) = a3 at *
  generalize pck 8 (x / 4294967296 % 256) = a4 at *
  generalize pck 8 (x / 1099511627776 % 256) = a5 at *
  generalize pck 8 (x / 281474976710656 % 256) = a6 at *
  generalize pck 8 (x / 72057594037927936 % 256) = a7 at *
  clear e hx
  exact bcl_num a0 a1 a2 a3 a4 a5 a6 a7 h0 h1 h2 h3 h4 h5 h6 h7
theorem iushr_nI {n k : Nat} (hn : n < 2 ^ 32) (hk : k < 32) : iushr (nI n) (nI k) = nI (n / 2 ^ k) := pk_ushrN hn _ k (s_u k hk)
theorem lushr_lN {n k : Nat} (hn : n < 2 ^ 64) (hk : k < 64) : lushr (lN n) (nI k) = lN (n / 2 ^ k) := wb_shr hn hk
theorem J_bc_nI {x : Nat} (hx : x < 2 ^ 32) : J_bc (nI x) = nI (pck 32 x) := by
  have c1 : (1431655765 : Int32) = nI (m5 8) := rfl
  have c2 : (858993459 : Int32) = nI (m3 8) := rfl
  have c3 : (252645135 : Int32) = nI (mf 4) := rfl
  unfold J_bc lt
  dsimp only
  rw [show (1 : Int32) = nI 1 from rfl, show (2 : Int32) = nI 2 from rfl, show (4 : Int32) = nI 4 from rfl, show (8 : Int32) = nI 8 from rfl, show (16 : Int32) = nI 16 from rfl, show (63 : Int32) = nI (2 ^ 6 - 1) from rfl, c1, c2, c3]
  rw [iushr_nI hx (by decide), fa_and, pk_sub (Nat.le_trans Nat.and_le_left (Nat.div_le_self _ _))]
  have b1 : x - ((x / 2 ^ 1) &&& m5 8) < 2 ^ 32 := Nat.lt_of_le_of_lt (Nat.sub_le _ _) hx
  rw [iushr_nI b1 (by decide), fa_and, fa_and, nI_add]
  have e12 := st12 8 x hx
  rw [show (2 : Nat) ^ 1 = 2 from rfl, show (2 : Nat) ^ 2 = 4 from rfl, e12]
  have e3 := st3 4 x hx
  have b2 : np 8 x < 2 ^ 32 := by
    rw [← e12]
    have q1 : ∀ y : Nat, (y &&& m3 8) ≤ m3 8 := fun y => Nat.and_le_right
    have := q1 (x - ((x / 2) &&& m5 8)); have := q1 ((x - ((x / 2) &&& m5 8)) / 4)
    have : m3 8 = 858993459 := rfl
    omega
  rw [iushr_nI b2 (by decide), nI_add, fa_and, show (2 : Nat) ^ 4 = 16 from rfl, e3]
  have b3 : bp 4 x ≤ 252645135 := by rw [← e3]; exact Nat.and_le_right
  rw [iushr_nI (by omega) (by decide), nI_add, iushr_nI (by omega) (by decide), nI_add, fa_mask, show (2 : Nat) ^ 8 = 256 from rfl, show (2 : Nat) ^ 16 = 65536 from rfl, show (2 : Nat) ^ 6 = 64 from rfl, bc_nat hx]
theorem J_bcl_lN {x : Nat} (hx : x < 2 ^ 64) : J_bcl (lN x) = nI (pck 64 x) := by
  have c1 : (6148914691236517205 : Int64) = lN (m5 16) := rfl
  have c2 : (3689348814741910323 : Int64) = lN (m3 16) := rfl
  have c3 : (1085102592571150095 : Int64) = lN (mf 8) := rfl
  have z5 : m5 16 = 6148914691236517205 := rfl
  have z3 : m3 16 = 3689348814741910323 := rfl
  have zf : mf 8 = 1085102592571150095 := rfl
  unfold J_bcl lt
  dsimp only
  rw [show (1 : Int32) = nI 1 from rfl, show (2 : Int32) = nI 2 from rfl, show (4 : Int32) = nI 4 from rfl, show (8 : Int32) = nI 8 from rfl, show (16 : Int32) = nI 16 from rfl, show (32 : Int32) = nI 32 from rfl, show (127 : Int32) = nI (2 ^ 7 - 1) from rfl, c1, c2, c3]
  rw [lushr_lN hx (by decide), wb_and (by omega) (by omega), lN_sub (Nat.le_trans Nat.and_le_left (Nat.div_le_self _ _))]
  have b1 : x - ((x / 2 ^ 1) &&& m5 16) < 2 ^ 64 := Nat.lt_of_le_of_lt (Nat.sub_le _ _) hx
  rw [lushr_lN b1 (by decide), wb_and b1 (by omega), wb_and (by omega) (by omega), lN_add]
  have e12 := st12 16 x hx
  rw [show (2 : Nat) ^ 1 = 2 from rfl, show (2 : Nat) ^ 2 = 4 from rfl, e12]
  have e3 := st3 8 x hx
  have b2 : np 16 x < 2 ^ 64 := by
    rw [← e12]
    have q1 : ∀ y : Nat, (y &&& m3 16) ≤ m3 16 := fun y => Nat.and_le_right
    have := q1 (x - ((x / 2) &&& m5 16)); have := q1 ((x - ((x / 2) &&& m5 16)) / 4)
    omega
  have b2' : np 16 x ≤ 7378697629483820646 := by
    rw [← e12]
    have q1 : ∀ y : Nat, (y &&& m3 16) ≤ m3 16 := fun y => Nat.and_le_right
    have := q1 (x - ((x / 2) &&& m5 16)); have := q1 ((x - ((x / 2) &&& m5 16)) / 4)
    omega
  rw [lushr_lN b2 (by decide), lN_add, wb_and (by omega) (by omega), show (2 : Nat) ^ 4 = 16 from rfl, e3]
  have b3 : bp 8 x ≤ 1085102592571150095 := by rw [← e3]; exact Nat.and_le_right
  rw [lushr_lN (by omega) (by decide), lN_add, lushr_lN (by omega) (by decide), lN_add, lushr_lN (by omega) (by decide), lN_add, lN_i, fa_mask, show (2 : Nat) ^ 8 = 256 from rfl, show (2 : Nat) ^ 16 = 65536 from rfl, show (2 : Nat) ^ 32 = 4294967296 from rfl, show (2 : Nat) ^ 7 = 128 from rfl, bcl_nat hx]
