/-! rows of bits: which sets of lines are in -/
theorem sh6 {x : Nat} (hx : x < 2 ^ 31) : nI x >>> ((6 : Int32) &&& 31) = nI (x / 64) := shr_nI (e := 6) hx (by decide)
theorem i64 {x : Nat} (hx : x < 2 ^ 31) : (nI x).toInt64 &&& 63 = lN (x % 64) := by
  rw [nI_l hx, show (63 : Int64) = lN (2 ^ 6 - 1) from rfl, wb_mask (by omega) (by decide)]
theorem one_shl : ∀ s, s < 64 → (1 : Int64) <<< lN s = lN (2 ^ s) := by decide +kernel
theorem sar_bit {w s : Nat} (hw : w < 2 ^ 64) (hs : s < 64) : (lN w >>> lN s) &&& 1 = lN (if w.testBit s = true then 1 else 0) := by
  apply wb_inj
  apply BitVec.eq_of_getLsbD_eq
  intro i hi
  rw [Int64.toBitVec_and, BitVec.getLsbD_and, Int64.toBitVec_shiftRight]
  have e : (lN w).toBitVec.sshiftRight' ((lN s).toBitVec.smod 64) = (lN w).toBitVec.sshiftRight s := by
    show (lN w).toBitVec.sshiftRight ((lN s).toBitVec.smod 64).toNat = _
    rw [wb_tb s, wb_sm s hs, BitVec.toNat_ofNat, Nat.mod_eq_of_lt (by omega)]
  have e1 : (1 : Int64).toBitVec = 1#64 := rfl
  have e2 : ((lN w).toBitVec.sshiftRight s).getLsbD 0 = w.testBit s := by
    rw [BitVec.getLsbD_sshiftRight, if_pos (by omega)]
    rw [wb_tb, Nat.add_zero, BitVec.getLsbD_ofNat]
    simp [hs]
  rw [show (lN w).toBitVec.sshiftRight' ((lN s).toBitVec.smod 64) = (lN w).toBitVec.sshiftRight s from e, e1]
  by_cases h : i = 0
  · subst h
    rw [e2]
    cases w.testBit s <;> simp [wb_tb]
  · have : (1#64).getLsbD i = false := by rw [BitVec.getLsbD_one]; simp [h]
    rw [this, Bool.and_false, wb_tb, BitVec.getLsbD_ofNat]
    cases w.testBit s
    · simp
    · simp [hi, h]
      exact Bool.eq_false_iff.mpr (fun z => h (Nat.testBit_one_eq_true_iff_self_eq_zero.mp z))
theorem mk_or (p : Nat → Bool) {s : Nat} (hs : s < 64) : mk 64 p ||| 2 ^ s = mk 64 (fun b => p b || decide (b = s)) := by
  apply Nat.eq_of_testBit_eq
  intro i
  rw [Nat.testBit_or, mk_bit, mk_bit, Nat.testBit_two_pow]
  by_cases h : i = s
  · subst h; simp [hs]
  · simp [h, Ne.symm h]
theorem mk_clr (p : Nat → Bool) {s : Nat} (hs : s < 64) : mk 64 p &&& (2 ^ s ^^^ (2 ^ 64 - 1)) = mk 64 (fun b => p b && !decide (b = s)) := by
  apply Nat.eq_of_testBit_eq
  intro i
  rw [Nat.testBit_and, mk_bit, mk_bit, Nat.testBit_xor, Nat.testBit_two_pow, Nat.testBit_two_pow_sub_one]
  by_cases hi : i < 64
  · by_cases h : i = s
    · subst h; simp [hi]
    · simp [h, hi, Ne.symm h]
  · simp [hi]
theorem iushr14 {a : Nat} (ha : a < 2 ^ 32) : iushr (nI a) 14 = 0 ↔ a < 2 ^ 14 := by
  rw [show (14 : Int32) = nI 14 from rfl, iushr_nI ha (by decide), nI_z (by omega)]
  omega
theorem mk64_lt (p : Nat → Bool) : mk 64 p < 2 ^ 64 := mk_lt p 64
/-- the row of bits k holds P -/
def WB (σ : St) (k : Nat) (P : Nat → Bool) : Prop := ∀ w, w < 256 → σ.2.2 k w = lN (mk 64 (fun b => P (64 * w + b)))
theorem WB_put {σ : St} {k : Nat} {P : Nat → Bool} (h : WB σ k P) {x : Nat} (hx : x < 2 ^ 14) : WB (sj σ k (x / 64) (σ.2.2 k (x / 64) ||| lN (2 ^ (x % 64)))) k (fun z => P z || decide (z = x)) := by
  intro w hw
  have hp := Nat.pow_lt_pow_right (show 1 < 2 by decide) (show x % 64 < 64 by omega)
  by_cases e : w = x / 64
  · subst e
    show va_up σ.2.2 k _ k (x / 64) = _
    rw [up_s]
    show (if x / 64 = x / 64 then _ else _) = _
    rw [if_pos rfl, h _ hw, wb_or (mk64_lt _) hp, mk_or _ (by omega)]
    congr 2
    funext b
    congr 1
    rw [decide_eq_decide]
    omega
  · show va_up σ.2.2 k _ k w = _
    rw [up_s]
    show (if w = x / 64 then _ else σ.2.2 k w) = _
    rw [if_neg e, h w hw]
    refine congrArg lN (Nat.eq_of_testBit_eq (fun i => ?_))
    rw [mk_bit, mk_bit]
    by_cases hi : i < 64
    · have : ¬ 64 * w + i = x := by omega
      simp [this]
    · simp [hi]
theorem WB_drop {σ : St} {k : Nat} {P : Nat → Bool} (h : WB σ k P) {x : Nat} (hx : x < 2 ^ 14) : WB (sj σ k (x / 64) (σ.2.2 k (x / 64) &&& (lN (2 ^ (x % 64)) ^^^ (-1)))) k (fun z => P z && !decide (z = x)) := by
  intro w hw
  have hp := Nat.pow_lt_pow_right (show 1 < 2 by decide) (show x % 64 < 64 by omega)
  by_cases e : w = x / 64
  · subst e
    show va_up σ.2.2 k _ k (x / 64) = _
    rw [up_s]
    show (if x / 64 = x / 64 then _ else _) = _
    rw [if_pos rfl, h _ hw, show (-1 : Int64) = lN (2 ^ 64 - 1) from rfl, fb_xorL, wb_and (mk64_lt _) (Nat.xor_lt_two_pow hp (by decide)), mk_clr _ (by omega)]
    congr 2
    funext b
    congr 2
    rw [decide_eq_decide]
    omega
  · show va_up σ.2.2 k _ k w = _
    rw [up_s]
    show (if w = x / 64 then _ else σ.2.2 k w) = _
    rw [if_neg e, h w hw]
    refine congrArg lN (Nat.eq_of_testBit_eq (fun i => ?_))
    rw [mk_bit, mk_bit]
    by_cases hi : i < 64
    · have : ¬ 64 * w + i = x := by omega
      simp [this]
    · simp [hi]
theorem WB_bit {σ : St} {k : Nat} {P : Nat → Bool} (h : WB σ k P) {x : Nat} (hx : x < 2 ^ 14) : ((σ.2.2 k (x / 64)) >>> lN (x % 64)) &&& 1 = lN (if P x = true then 1 else 0) := by
  rw [h _ (by omega), sar_bit (mk64_lt _) (by omega), mk_bit]
  simp only [show x % 64 < 64 by omega, decide_true, Bool.true_and]
  rw [Nat.div_add_mod]
theorem WB_any {σ : St} {k : Nat} {P : Nat → Bool} (h : WB σ k P) {w : Nat} (hw : w < 256) : σ.2.2 k w = 0 ↔ ∀ b, b < 64 → P (64 * w + b) = false := by
  rw [h w hw, show (0 : Int64) = lN 0 from rfl]
  constructor
  · intro e b hb
    have e1 : mk 64 (fun b => P (64 * w + b)) = 0 := by
      have := congrArg (fun z : Int64 => z.toBitVec.toNat) e
      rwa [wb_tn (mk64_lt _), wb_tn (by decide)] at this
    have := mk_bit (fun b => P (64 * w + b)) 64 b
    rw [e1] at this
    simp [hb] at this
    exact this
  · intro hall
    congr 1
    apply Nat.eq_of_testBit_eq
    intro i
    rw [mk_bit]
    by_cases hi : i < 64
    · simp [hall i hi]
    · simp [hi]
theorem WB_less {σ : St} {k : Nat} {P : Nat → Bool} (h : WB σ k P) {x : Nat} (hx : x < 2 ^ 14) : J_bcl (σ.2.2 k (x / 64) &&& (lN (2 ^ (x % 64)) - 1)) = nI (fb_ct (fun b => P (64 * (x / 64) + b)) (x % 64)) := by
  have hp := Nat.pow_lt_pow_right (show 1 < 2 by decide) (show x % 64 < 64 by omega)
  have hp0 := Nat.two_pow_pos (x % 64)
  rw [h _ (by omega), show (1 : Int64) = lN 1 from rfl, lN_sub hp0, wb_mask (mk64_lt _) (by omega), J_bcl_lN (Nat.lt_of_le_of_lt (Nat.mod_le _ _) (mk64_lt _))]
  congr 1
  unfold pck
  obtain ⟨s, hs⟩ : ∃ s, s = x % 64 := ⟨_, rfl⟩
  obtain ⟨q, hq⟩ : ∃ q, q = x / 64 := ⟨_, rfl⟩
  rw [← hs, ← hq]
  have hs64 : s < 64 := by omega
  have key : ∀ d, fb_ct (fun i => (mk 64 (fun b => P (64 * q + b)) % 2 ^ s).testBit i) (s + d) = fb_ct (fun b => P (64 * q + b)) s := by
    intro d
    rw [fb_ct_split]
    have e1 : fb_ct (fun i => (mk 64 (fun b => P (64 * q + b)) % 2 ^ s).testBit (s + i)) d = 0 := fb_ct_zero.mpr (fun i _ => by rw [Nat.testBit_mod_two_pow, decide_eq_false (by omega), Bool.false_and])
    rw [e1, Nat.add_zero]
    exact fb_ct_cong (fun i hi => by rw [Nat.testBit_mod_two_pow, mk_bit]; simp [hi, show i < 64 by omega])
  have := key (64 - s)
  rw [show s + (64 - s) = 64 by omega] at this
  exact this
theorem Bits_has_ok {σ : St} {P : Nat → Bool} (h : WB σ 0 P) (N : Nat) {x : Nat} (hx : x < 2 ^ 14) : Bits_has N (nI x) σ = some (if P x = true then 1 else 0) := by
  unfold Bits_has
  rw [if_pos ((iushr14 (by omega)).mpr hx), sh6 (by omega), grd_t (inb_nI (by omega) (by decide)), nI_clamp (by omega), i64 (by omega), WB_bit h hx]
  by_cases z : P x = true
  · rw [if_pos z, if_neg (by decide), if_pos z]
  · rw [if_neg z, if_pos (by decide), if_neg z]
theorem Bits_has_no (σ : St) (N : Nat) {x : Nat} (hx : ¬ x < 2 ^ 14) (hx2 : x < 2 ^ 32) : Bits_has N (nI x) σ = some 0 := by
  unfold Bits_has
  rw [if_neg (fun z => hx ((iushr14 hx2).mp z))]
theorem Bits_put_ok (σ : St) (N : Nat) {x : Nat} (hx : x < 2 ^ 14) : Bits_put N (nI x) σ = some (sj σ 0 (x / 64) (σ.2.2 0 (x / 64) ||| lN (2 ^ (x % 64)))) := by
  unfold Bits_put lt
  rw [if_pos ((iushr14 (by omega)).mpr hx), sh6 (by omega), grd_t (inb_nI (by omega) (by decide)), grd_t (inb_nI (by omega) (by decide)), nI_clamp (by omega), i64 (by omega), one_shl _ (by omega)]
theorem Un_has_ok {σ : St} {P : Nat → Bool} (h : WB σ 1 P) (N : Nat) {x : Nat} (hx : x < 2 ^ 14) : Un_has N (nI x) σ = some (if P x = true then 1 else 0) := by
  unfold Un_has
  rw [if_pos ((iushr14 (by omega)).mpr hx), sh6 (by omega), grd_t (inb_nI (by omega) (by decide)), nI_clamp (by omega), i64 (by omega), WB_bit h hx]
  by_cases z : P x = true
  · rw [if_pos z, if_neg (by decide), if_pos z]
  · rw [if_neg z, if_pos (by decide), if_neg z]
theorem Un_has_no (σ : St) (N : Nat) {x : Nat} (hx : ¬ x < 2 ^ 14) (hx2 : x < 2 ^ 32) : Un_has N (nI x) σ = some 0 := by
  unfold Un_has
  rw [if_neg (fun z => hx ((iushr14 hx2).mp z))]
theorem Un_put_ok (σ : St) (N : Nat) {x : Nat} (hx : x < 2 ^ 14) : Un_put N (nI x) σ = some (sj σ 1 (x / 64) (σ.2.2 1 (x / 64) ||| lN (2 ^ (x % 64)))) := by
  unfold Un_put lt
  rw [if_pos ((iushr14 (by omega)).mpr hx), sh6 (by omega), grd_t (inb_nI (by omega) (by decide)), grd_t (inb_nI (by omega) (by decide)), nI_clamp (by omega), i64 (by omega), one_shl _ (by omega)]
theorem Un_drop_ok (σ : St) (N : Nat) {x : Nat} (hx : x < 2 ^ 14) : Un_drop N (nI x) σ = some (sj σ 1 (x / 64) (σ.2.2 1 (x / 64) &&& (lN (2 ^ (x % 64)) ^^^ (-1)))) := by
  unfold Un_drop lt
  rw [if_pos ((iushr14 (by omega)).mpr hx), sh6 (by omega), grd_t (inb_nI (by omega) (by decide)), grd_t (inb_nI (by omega) (by decide)), nI_clamp (by omega), i64 (by omega), one_shl _ (by omega)]
theorem Bits_word_ok {σ : St} {P : Nat → Bool} (h : WB σ 0 P) (N : Nat) {x : Nat} (hx : x < 2 ^ 14) : (Bits_hasInWordOf N (nI x) σ = some 0 ∧ ∀ b, b < 64 → P (64 * (x / 64) + b) = false) ∨ (Bits_hasInWordOf N (nI x) σ = some 1 ∧ ∃ b, b < 64 ∧ P (64 * (x / 64) + b) = true) := by
  unfold Bits_hasInWordOf
  rw [if_pos ((iushr14 (by omega)).mpr hx), sh6 (by omega), grd_t (inb_nI (by omega) (by decide)), nI_clamp (by omega)]
  by_cases z : σ.2.2 0 (x / 64) = 0
  · left
    rw [if_pos ((lg_cmp_eq _ _).mpr z)]
    exact ⟨rfl, (WB_any h (by omega)).mp z⟩
  · right
    rw [if_neg (fun y => z ((lg_cmp_eq _ _).mp y))]
    refine ⟨rfl, Classical.byContradiction fun q => z ((WB_any h (by omega)).mpr (fun b hb => ?_))⟩
    exact Bool.eq_false_iff.mpr (fun y => q ⟨b, hb, y⟩)
theorem Bits_less_ok {σ : St} {P : Nat → Bool} (h : WB σ 0 P) (N : Nat) {x : Nat} (hx : x < 2 ^ 14) : Bits_lesserInWordOf N (nI x) σ = some (nI (fb_ct (fun b => P (64 * (x / 64) + b)) (x % 64))) := by
  unfold Bits_lesserInWordOf
  rw [if_pos ((iushr14 (by omega)).mpr hx), sh6 (by omega), grd_t (inb_nI (by omega) (by decide)), nI_clamp (by omega), i64 (by omega), one_shl _ (by omega), WB_less h hx]
theorem WB_fill (σ : St) (k : Nat) : WB (fillJ σ k 256 0) k (fun _ => false) := by
  intro w hw
  show va_up σ.2.2 k _ k w = _
  rw [up_s]
  show (if w < 256 then (0 : Int64) else _) = _
  rw [if_pos hw]
  have : mk 64 (fun _ => false) = 0 := by
    apply Nat.eq_of_testBit_eq
    intro i
    rw [mk_bit]; simp
  rw [this]
  rfl
