/-! walks laid by program (gen.py, walk.py): 13.model2 -/
theorem dX8_sorts_0 : decode cX8_sorts 0 = .ok (.iconst 0, 1) := by decide +kernel
theorem dX8_sorts_1 : decode cX8_sorts 1 = .ok (.istore_n 1, 1) := by decide +kernel
theorem dX8_sorts_2 : decode cX8_sorts 2 = .ok (.iload_n 1, 1) := by decide +kernel
theorem dX8_sorts_3 : decode cX8_sorts 3 = .ok (.sipush 7000, 3) := by decide +kernel
theorem dX8_sorts_6 : decode cX8_sorts 6 = .ok (.if_icmp .ge 16, 3) := by decide +kernel
theorem dX8_sorts_9 : decode cX8_sorts 9 = .ok (.aload_n 0, 1) := by decide +kernel
theorem dX8_sorts_10 : decode cX8_sorts 10 = .ok (.getfield 75, 3) := by decide +kernel
theorem dX8_sorts_13 : decode cX8_sorts 13 = .ok (.iload_n 1, 1) := by decide +kernel
theorem dX8_sorts_14 : decode cX8_sorts 14 = .ok (.iconst 0, 1) := by decide +kernel
theorem dX8_sorts_15 : decode cX8_sorts 15 = .ok (.iastore, 1) := by decide +kernel
theorem dX8_sorts_16 : decode cX8_sorts 16 = .ok (.iinc 1 1, 3) := by decide +kernel
theorem dX8_sorts_19 : decode cX8_sorts 19 = .ok (.goto (-17), 3) := by decide +kernel
theorem dX8_sorts_22 : decode cX8_sorts 22 = .ok (.iconst 0, 1) := by decide +kernel
theorem dX8_sorts_23 : decode cX8_sorts 23 = .ok (.istore_n 1, 1) := by decide +kernel
theorem dX8_sorts_24 : decode cX8_sorts 24 = .ok (.iload_n 1, 1) := by decide +kernel
theorem dX8_sorts_25 : decode cX8_sorts 25 = .ok (.aload_n 0, 1) := by decide +kernel
theorem dX8_sorts_26 : decode cX8_sorts 26 = .ok (.getfield 142, 3) := by decide +kernel
theorem dX8_sorts_29 : decode cX8_sorts 29 = .ok (.if_icmp .ge 26, 3) := by decide +kernel
theorem dX8_sorts_32 : decode cX8_sorts 32 = .ok (.aload_n 0, 1) := by decide +kernel
theorem dX8_sorts_33 : decode cX8_sorts 33 = .ok (.getfield 75, 3) := by decide +kernel
theorem dX8_sorts_36 : decode cX8_sorts 36 = .ok (.aload_n 0, 1) := by decide +kernel
theorem dX8_sorts_37 : decode cX8_sorts 37 = .ok (.getfield 63, 3) := by decide +kernel
theorem dX8_sorts_40 : decode cX8_sorts 40 = .ok (.iload_n 1, 1) := by decide +kernel
theorem dX8_sorts_41 : decode cX8_sorts 41 = .ok (.iaload, 1) := by decide +kernel
theorem dX8_sorts_42 : decode cX8_sorts 42 = .ok (.iconst 1, 1) := by decide +kernel
theorem dX8_sorts_43 : decode cX8_sorts 43 = .ok (.iadd, 1) := by decide +kernel
theorem dX8_sorts_44 : decode cX8_sorts 44 = .ok (.dup2, 1) := by decide +kernel
theorem dX8_sorts_45 : decode cX8_sorts 45 = .ok (.iaload, 1) := by decide +kernel
theorem dX8_sorts_46 : decode cX8_sorts 46 = .ok (.iconst 1, 1) := by decide +kernel
theorem dX8_sorts_47 : decode cX8_sorts 47 = .ok (.iadd, 1) := by decide +kernel
theorem dX8_sorts_48 : decode cX8_sorts 48 = .ok (.iastore, 1) := by decide +kernel
theorem dX8_sorts_49 : decode cX8_sorts 49 = .ok (.iinc 1 1, 3) := by decide +kernel
theorem dX8_sorts_52 : decode cX8_sorts 52 = .ok (.goto (-28), 3) := by decide +kernel
theorem dX8_sorts_55 : decode cX8_sorts 55 = .ok (.iconst 1, 1) := by decide +kernel
theorem dX8_sorts_56 : decode cX8_sorts 56 = .ok (.istore_n 1, 1) := by decide +kernel
theorem dX8_sorts_57 : decode cX8_sorts 57 = .ok (.iload_n 1, 1) := by decide +kernel
theorem dX8_sorts_58 : decode cX8_sorts 58 = .ok (.sipush 7000, 3) := by decide +kernel
theorem dX8_sorts_61 : decode cX8_sorts 61 = .ok (.if_icmp .ge 26, 3) := by decide +kernel
theorem dX8_sorts_64 : decode cX8_sorts 64 = .ok (.aload_n 0, 1) := by decide +kernel
theorem dX8_sorts_65 : decode cX8_sorts 65 = .ok (.getfield 75, 3) := by decide +kernel
theorem dX8_sorts_68 : decode cX8_sorts 68 = .ok (.iload_n 1, 1) := by decide +kernel
theorem dX8_sorts_69 : decode cX8_sorts 69 = .ok (.dup2, 1) := by decide +kernel
theorem dX8_sorts_70 : decode cX8_sorts 70 = .ok (.iaload, 1) := by decide +kernel
theorem dX8_sorts_71 : decode cX8_sorts 71 = .ok (.aload_n 0, 1) := by decide +kernel
theorem dX8_sorts_72 : decode cX8_sorts 72 = .ok (.getfield 75, 3) := by decide +kernel
theorem dX8_sorts_75 : decode cX8_sorts 75 = .ok (.iload_n 1, 1) := by decide +kernel
theorem dX8_sorts_76 : decode cX8_sorts 76 = .ok (.iconst 1, 1) := by decide +kernel
theorem dX8_sorts_77 : decode cX8_sorts 77 = .ok (.isub, 1) := by decide +kernel
theorem dX8_sorts_78 : decode cX8_sorts 78 = .ok (.iaload, 1) := by decide +kernel
theorem dX8_sorts_79 : decode cX8_sorts 79 = .ok (.iadd, 1) := by decide +kernel
theorem dX8_sorts_80 : decode cX8_sorts 80 = .ok (.iastore, 1) := by decide +kernel
theorem dX8_sorts_81 : decode cX8_sorts 81 = .ok (.iinc 1 1, 3) := by decide +kernel
theorem dX8_sorts_84 : decode cX8_sorts 84 = .ok (.goto (-27), 3) := by decide +kernel
theorem dX8_sorts_87 : decode cX8_sorts 87 = .ok (.iconst 0, 1) := by decide +kernel
theorem dX8_sorts_88 : decode cX8_sorts 88 = .ok (.istore_n 1, 1) := by decide +kernel
theorem dX8_sorts_89 : decode cX8_sorts 89 = .ok (.iload_n 1, 1) := by decide +kernel
theorem dX8_sorts_90 : decode cX8_sorts 90 = .ok (.aload_n 0, 1) := by decide +kernel
theorem dX8_sorts_91 : decode cX8_sorts 91 = .ok (.getfield 142, 3) := by decide +kernel
theorem dX8_sorts_94 : decode cX8_sorts 94 = .ok (.if_icmp .ge 41, 3) := by decide +kernel
theorem dX8_sorts_97 : decode cX8_sorts 97 = .ok (.aload_n 0, 1) := by decide +kernel
theorem dX8_sorts_98 : decode cX8_sorts 98 = .ok (.getfield 72, 3) := by decide +kernel
theorem dX8_sorts_101 : decode cX8_sorts 101 = .ok (.aload_n 0, 1) := by decide +kernel
theorem dX8_sorts_102 : decode cX8_sorts 102 = .ok (.getfield 75, 3) := by decide +kernel
theorem dX8_sorts_105 : decode cX8_sorts 105 = .ok (.aload_n 0, 1) := by decide +kernel
theorem dX8_sorts_106 : decode cX8_sorts 106 = .ok (.getfield 63, 3) := by decide +kernel
theorem dX8_sorts_109 : decode cX8_sorts 109 = .ok (.iload_n 1, 1) := by decide +kernel
theorem dX8_sorts_110 : decode cX8_sorts 110 = .ok (.iaload, 1) := by decide +kernel
theorem dX8_sorts_111 : decode cX8_sorts 111 = .ok (.iaload, 1) := by decide +kernel
theorem dX8_sorts_112 : decode cX8_sorts 112 = .ok (.iload_n 1, 1) := by decide +kernel
theorem dX8_sorts_113 : decode cX8_sorts 113 = .ok (.iastore, 1) := by decide +kernel
theorem dX8_sorts_114 : decode cX8_sorts 114 = .ok (.aload_n 0, 1) := by decide +kernel
theorem dX8_sorts_115 : decode cX8_sorts 115 = .ok (.getfield 75, 3) := by decide +kernel
theorem dX8_sorts_118 : decode cX8_sorts 118 = .ok (.aload_n 0, 1) := by decide +kernel
theorem dX8_sorts_119 : decode cX8_sorts 119 = .ok (.getfield 63, 3) := by decide +kernel
theorem dX8_sorts_122 : decode cX8_sorts 122 = .ok (.iload_n 1, 1) := by decide +kernel
theorem dX8_sorts_123 : decode cX8_sorts 123 = .ok (.iaload, 1) := by decide +kernel
theorem dX8_sorts_124 : decode cX8_sorts 124 = .ok (.dup2, 1) := by decide +kernel
theorem dX8_sorts_125 : decode cX8_sorts 125 = .ok (.iaload, 1) := by decide +kernel
theorem dX8_sorts_126 : decode cX8_sorts 126 = .ok (.iconst 1, 1) := by decide +kernel
theorem dX8_sorts_127 : decode cX8_sorts 127 = .ok (.iadd, 1) := by decide +kernel
theorem dX8_sorts_128 : decode cX8_sorts 128 = .ok (.iastore, 1) := by decide +kernel
theorem dX8_sorts_129 : decode cX8_sorts 129 = .ok (.iinc 1 1, 3) := by decide +kernel
theorem dX8_sorts_132 : decode cX8_sorts 132 = .ok (.goto (-43), 3) := by decide +kernel
theorem dX8_sorts_135 : decode cX8_sorts 135 = .ok (.return_, 1) := by decide +kernel
def M_sorts_2 (N : Nat) (k_24 : Int32 → St → Option (St)) : Nat → Int32 → St → Option (St)
  | 0, _, _ => none
  | n + 1, x1, σ => if 7000 ≤ x1 then k_24 0 σ else grd (inb x1 7000) (lt (sa σ 16 (x1).toNatClampNeg 0) (fun σ3 => M_sorts_2 N k_24 n (x1 + 1) σ3))
theorem M_sorts_2_s (N : Nat) (k_24 : Int32 → St → Option (St)) (n : Nat) (x1 : Int32) (σ : St) : M_sorts_2 N k_24 (n + 1) x1 σ = if 7000 ≤ x1 then k_24 0 σ else grd (inb x1 7000) (lt (sa σ 16 (x1).toNatClampNeg 0) (fun σ3 => M_sorts_2 N k_24 n (x1 + 1) σ3)) := rfl
def M_sorts_24 (N : Nat) (k_57 : Int32 → St → Option (St)) : Nat → Int32 → St → Option (St)
  | 0, _, _ => none
  | n + 1, x1, σ => if (σ.1 10) ≤ x1 then k_57 1 σ else grd (inb x1 3432) (grd (inb ((σ.2.1 12 (x1).toNatClampNeg) + 1) 7000) (grd (inb ((σ.2.1 12 (x1).toNatClampNeg) + 1) 7000) (lt (sa σ 16 (((σ.2.1 12 (x1).toNatClampNeg) + 1)).toNatClampNeg ((σ.2.1 16 (((σ.2.1 12 (x1).toNatClampNeg) + 1)).toNatClampNeg) + 1)) (fun σ8 => M_sorts_24 N k_57 n (x1 + 1) σ8))))
theorem M_sorts_24_s (N : Nat) (k_57 : Int32 → St → Option (St)) (n : Nat) (x1 : Int32) (σ : St) : M_sorts_24 N k_57 (n + 1) x1 σ = if (σ.1 10) ≤ x1 then k_57 1 σ else grd (inb x1 3432) (grd (inb ((σ.2.1 12 (x1).toNatClampNeg) + 1) 7000) (grd (inb ((σ.2.1 12 (x1).toNatClampNeg) + 1) 7000) (lt (sa σ 16 (((σ.2.1 12 (x1).toNatClampNeg) + 1)).toNatClampNeg ((σ.2.1 16 (((σ.2.1 12 (x1).toNatClampNeg) + 1)).toNatClampNeg) + 1)) (fun σ8 => M_sorts_24 N k_57 n (x1 + 1) σ8)))) := rfl
def M_sorts_57 (N : Nat) (k_89 : Int32 → St → Option (St)) : Nat → Int32 → St → Option (St)
  | 0, _, _ => none
  | n + 1, x1, σ => if 7000 ≤ x1 then k_89 0 σ else grd (inb x1 7000) (grd (inb (x1 - 1) 7000) (grd (inb x1 7000) (lt (sa σ 16 (x1).toNatClampNeg ((σ.2.1 16 (x1).toNatClampNeg) + (σ.2.1 16 ((x1 - 1)).toNatClampNeg))) (fun σ13 => M_sorts_57 N k_89 n (x1 + 1) σ13))))
theorem M_sorts_57_s (N : Nat) (k_89 : Int32 → St → Option (St)) (n : Nat) (x1 : Int32) (σ : St) : M_sorts_57 N k_89 (n + 1) x1 σ = if 7000 ≤ x1 then k_89 0 σ else grd (inb x1 7000) (grd (inb (x1 - 1) 7000) (grd (inb x1 7000) (lt (sa σ 16 (x1).toNatClampNeg ((σ.2.1 16 (x1).toNatClampNeg) + (σ.2.1 16 ((x1 - 1)).toNatClampNeg))) (fun σ13 => M_sorts_57 N k_89 n (x1 + 1) σ13)))) := rfl
def M_sorts_89 (N : Nat) : Nat → Int32 → St → Option (St)
  | 0, _, _ => none
  | n + 1, x1, σ => if (σ.1 10) ≤ x1 then some σ else grd (inb x1 3432) (grd (inb (σ.2.1 12 (x1).toNatClampNeg) 7000) (grd (inb (σ.2.1 16 ((σ.2.1 12 (x1).toNatClampNeg)).toNatClampNeg) 3432) (lt (sa σ 15 ((σ.2.1 16 ((σ.2.1 12 (x1).toNatClampNeg)).toNatClampNeg)).toNatClampNeg x1) (fun σ18 => grd (inb x1 3432) (grd (inb (σ18.2.1 12 (x1).toNatClampNeg) 7000) (grd (inb (σ18.2.1 12 (x1).toNatClampNeg) 7000) (lt (sa σ18 16 ((σ18.2.1 12 (x1).toNatClampNeg)).toNatClampNeg ((σ18.2.1 16 ((σ18.2.1 12 (x1).toNatClampNeg)).toNatClampNeg) + 1)) (fun σ22 => M_sorts_89 N n (x1 + 1) σ22))))))))
theorem M_sorts_89_s (N : Nat) (n : Nat) (x1 : Int32) (σ : St) : M_sorts_89 N (n + 1) x1 σ = if (σ.1 10) ≤ x1 then some σ else grd (inb x1 3432) (grd (inb (σ.2.1 12 (x1).toNatClampNeg) 7000) (grd (inb (σ.2.1 16 ((σ.2.1 12 (x1).toNatClampNeg)).toNatClampNeg) 3432) (lt (sa σ 15 ((σ.2.1 16 ((σ.2.1 12 (x1).toNatClampNeg)).toNatClampNeg)).toNatClampNeg x1) (fun σ18 => grd (inb x1 3432) (grd (inb (σ18.2.1 12 (x1).toNatClampNeg) 7000) (grd (inb (σ18.2.1 12 (x1).toNatClampNeg) 7000) (lt (sa σ18 16 ((σ18.2.1 12 (x1).toNatClampNeg)).toNatClampNeg ((σ18.2.1 16 ((σ18.2.1 12 (x1).toNatClampNeg)).toNatClampNeg) + 1)) (fun σ22 => M_sorts_89 N n (x1 + 1) σ22)))))))) := rfl
def M_sorts (N : Nat)  (σ0 : St) : Option (St) := M_sorts_2 N (M_sorts_24 N (M_sorts_57 N (M_sorts_89 N N) N) N) N 0 σ0
abbrev rm_M_sorts : Room := { frames := 0, cells := 0, slots := 0, locals := 0 }
set_option maxHeartbeats 4000000 in
set_option maxRecDepth 100000 in
theorem k_M_sorts (l : Launch) (ad : Nat → Nat) (cI cJ cZ : ClassId) {N : Nat}  {σ0 : St} {τ : St} (hf : M_sorts N σ0 = some τ) : CtV l yX8_sorts (gws (.code yX8_sorts cX8_sorts 2 none)) (rm_M_sorts) (ty3 cI cJ cZ) (mw ad cI cZ) [.ref (ad 0)] σ0 τ := by
  refine CtV.of (by decide) (mw_ok ad cI cZ) (Nat.le_of_ble_eq_true rfl) ?_
  generalize hav : ([.ref (ad 0)] : List Value) = av
  intro p e s m below meth c D A hC ls hl hP hS
  obtain ⟨hx, hb, hr, hlocks, hml, hown, hts, hK, hN, hD, hA⟩ := id hC
  rw [← hav] at hl
  have hl : lv_has ls 2 [(0, .ref (ad 0))] := hl
  unfold M_sorts at hf
  have hw_2 : ∀ (k_24 : Int32 → St → Option (St)) (hk_24 : ∀ (x1 : Int32) (σ : St) (H : Heap) (locs : List Loc) (ls : Array Slot), va_P D vwCl ((mw ad cI cZ) σ) H → va_S A s.heap H locs → lv_has ls 2 [(0, .ref (ad 0)), (1, .int x1)] → k_24 x1 σ = some τ → W p l e (rm_M_sorts) s m av.toArray below meth c H locs 0 0 (QV below av.toArray s D A (mw ad cI cZ) τ) (F0 m 24 ls [])), ∀ (n : Nat), ∀ (x1 : Int32) (σ : St) (H : Heap) (locs : List Loc) (ls : Array Slot), va_P D vwCl ((mw ad cI cZ) σ) H → va_S A s.heap H locs → lv_has ls 2 [(0, .ref (ad 0)), (1, .int x1)] → M_sorts_2 N k_24 n x1 σ = some τ → W p l e (rm_M_sorts) s m av.toArray below meth c H locs 0 0 (QV below av.toArray s D A (mw ad cI cZ) τ) (F0 m 2 ls []) := by
    intro k_24 hk_24
    intro n
    induction n with
    | zero =>
      intro x1 σ H locs ls hP hS hl hf
      cases hf
    | succ n ih =>
      intro x1 σ H locs ls hP hS hl hf
      rw [M_sorts_2_s] at hf
      refine lv_iload_n hx hb dX8_sorts_2 rfl (lv_at hl 1 rfl) ?_
      refine lv_sipush (v := 7000) hx hb dX8_sorts_3 (by decide) ?_
      refine lv_icmp_ge (tgt := 22) hx hb dX8_sorts_6 (by decide) (fun c1 => ?_) (fun c1 => ?_)
      · rw [if_pos c1] at hf
        refine lv_iconst (v := 0) hx hb dX8_sorts_22 (by decide) ?_
        refine lv_istore_n (lv' := [(1, .int 0), (0, .ref (ad 0))]) hx hb dX8_sorts_23 rfl hl (by decide) rfl (fun ls hl => ?_)
        exact hk_24 0 σ H locs ls hP hS (lv_sub hl [1, 0] rfl) hf
      rw [if_neg c1] at hf
      refine lv_aload_n hx hb dX8_sorts_9 rfl (lv_at hl 0 rfl) ?_
      refine mg_0_27 hC hP tw_746 dX8_sorts_10 ?_
      refine lv_iload_n hx hb dX8_sorts_13 rfl (lv_at hl 1 rfl) ?_
      refine lv_iconst (v := 0) hx hb dX8_sorts_14 (by decide) ?_
      obtain ⟨g2, hf⟩ := grd_some hf
      refine ms_17 hC hP hS g2 dX8_sorts_15 (fun H locs hP hS => ?_)
      obtain ⟨σ3, eσ3, hf⟩ := lt_e hf
      rw [← eσ3] at hP
      refine lv_iinc (v := (x1 + 1)) (lv' := [(1, .int (x1 + 1)), (0, .ref (ad 0))]) hx hb dX8_sorts_16 hl (k := 1) rfl rfl (by decide) rfl (fun ls hl => ?_)
      refine lv_goto (tgt := 2) hx hb dX8_sorts_19 (by decide) ?_
      exact ih (x1 + 1) σ3 H locs ls hP hS (lv_sub hl [1, 0] rfl) hf
  have hw_24 : ∀ (k_57 : Int32 → St → Option (St)) (hk_57 : ∀ (x1 : Int32) (σ : St) (H : Heap) (locs : List Loc) (ls : Array Slot), va_P D vwCl ((mw ad cI cZ) σ) H → va_S A s.heap H locs → lv_has ls 2 [(0, .ref (ad 0)), (1, .int x1)] → k_57 x1 σ = some τ → W p l e (rm_M_sorts) s m av.toArray below meth c H locs 0 0 (QV below av.toArray s D A (mw ad cI cZ) τ) (F0 m 57 ls [])), ∀ (n : Nat), ∀ (x1 : Int32) (σ : St) (H : Heap) (locs : List Loc) (ls : Array Slot), va_P D vwCl ((mw ad cI cZ) σ) H → va_S A s.heap H locs → lv_has ls 2 [(0, .ref (ad 0)), (1, .int x1)] → M_sorts_24 N k_57 n x1 σ = some τ → W p l e (rm_M_sorts) s m av.toArray below meth c H locs 0 0 (QV below av.toArray s D A (mw ad cI cZ) τ) (F0 m 24 ls []) := by
    intro k_57 hk_57
    intro n
    induction n with
    | zero =>
      intro x1 σ H locs ls hP hS hl hf
      cases hf
    | succ n ih =>
      intro x1 σ H locs ls hP hS hl hf
      rw [M_sorts_24_s] at hf
      refine lv_iload_n hx hb dX8_sorts_24 rfl (lv_at hl 1 rfl) ?_
      refine lv_aload_n hx hb dX8_sorts_25 rfl (lv_at hl 0 rfl) ?_
      refine mg_0_20 hC hP tw_739 dX8_sorts_26 ?_
      refine lv_icmp_ge (tgt := 55) hx hb dX8_sorts_29 (by decide) (fun c4 => ?_) (fun c4 => ?_)
      · rw [if_pos c4] at hf
        refine lv_iconst (v := 1) hx hb dX8_sorts_55 (by decide) ?_
        refine lv_istore_n (lv' := [(1, .int 1), (0, .ref (ad 0))]) hx hb dX8_sorts_56 rfl hl (by decide) rfl (fun ls hl => ?_)
        exact hk_57 1 σ H locs ls hP hS (lv_sub hl [1, 0] rfl) hf
      rw [if_neg c4] at hf
      refine lv_aload_n hx hb dX8_sorts_32 rfl (lv_at hl 0 rfl) ?_
      refine mg_0_27 hC hP tw_746 dX8_sorts_33 ?_
      refine lv_aload_n hx hb dX8_sorts_36 rfl (lv_at hl 0 rfl) ?_
      refine mg_0_23 hC hP tw_742 dX8_sorts_37 ?_
      refine lv_iload_n hx hb dX8_sorts_40 rfl (lv_at hl 1 rfl) ?_
      obtain ⟨g5, hf⟩ := grd_some hf
      refine ml_13 hC hP g5 dX8_sorts_41 ?_
      refine lv_iconst (v := 1) hx hb dX8_sorts_42 (by decide) ?_
      refine lv_iadd hx hb dX8_sorts_43 ?_
      refine lv_dup2_11 hx hb dX8_sorts_44 rfl rfl ?_
      obtain ⟨g6, hf⟩ := grd_some hf
      refine ml_17 hC hP g6 dX8_sorts_45 ?_
      refine lv_iconst (v := 1) hx hb dX8_sorts_46 (by decide) ?_
      refine lv_iadd hx hb dX8_sorts_47 ?_
      obtain ⟨g7, hf⟩ := grd_some hf
      refine ms_17 hC hP hS g7 dX8_sorts_48 (fun H locs hP hS => ?_)
      obtain ⟨σ8, eσ8, hf⟩ := lt_e hf
      rw [← eσ8] at hP
      refine lv_iinc (v := (x1 + 1)) (lv' := [(1, .int (x1 + 1)), (0, .ref (ad 0))]) hx hb dX8_sorts_49 hl (k := 1) rfl rfl (by decide) rfl (fun ls hl => ?_)
      refine lv_goto (tgt := 24) hx hb dX8_sorts_52 (by decide) ?_
      exact ih (x1 + 1) σ8 H locs ls hP hS (lv_sub hl [1, 0] rfl) hf
  have hw_57 : ∀ (k_89 : Int32 → St → Option (St)) (hk_89 : ∀ (x1 : Int32) (σ : St) (H : Heap) (locs : List Loc) (ls : Array Slot), va_P D vwCl ((mw ad cI cZ) σ) H → va_S A s.heap H locs → lv_has ls 2 [(0, .ref (ad 0)), (1, .int x1)] → k_89 x1 σ = some τ → W p l e (rm_M_sorts) s m av.toArray below meth c H locs 0 0 (QV below av.toArray s D A (mw ad cI cZ) τ) (F0 m 89 ls [])), ∀ (n : Nat), ∀ (x1 : Int32) (σ : St) (H : Heap) (locs : List Loc) (ls : Array Slot), va_P D vwCl ((mw ad cI cZ) σ) H → va_S A s.heap H locs → lv_has ls 2 [(0, .ref (ad 0)), (1, .int x1)] → M_sorts_57 N k_89 n x1 σ = some τ → W p l e (rm_M_sorts) s m av.toArray below meth c H locs 0 0 (QV below av.toArray s D A (mw ad cI cZ) τ) (F0 m 57 ls []) := by
    intro k_89 hk_89
    intro n
    induction n with
    | zero =>
      intro x1 σ H locs ls hP hS hl hf
      cases hf
    | succ n ih =>
      intro x1 σ H locs ls hP hS hl hf
      rw [M_sorts_57_s] at hf
      refine lv_iload_n hx hb dX8_sorts_57 rfl (lv_at hl 1 rfl) ?_
      refine lv_sipush (v := 7000) hx hb dX8_sorts_58 (by decide) ?_
      refine lv_icmp_ge (tgt := 87) hx hb dX8_sorts_61 (by decide) (fun c9 => ?_) (fun c9 => ?_)
      · rw [if_pos c9] at hf
        refine lv_iconst (v := 0) hx hb dX8_sorts_87 (by decide) ?_
        refine lv_istore_n (lv' := [(1, .int 0), (0, .ref (ad 0))]) hx hb dX8_sorts_88 rfl hl (by decide) rfl (fun ls hl => ?_)
        exact hk_89 0 σ H locs ls hP hS (lv_sub hl [1, 0] rfl) hf
      rw [if_neg c9] at hf
      refine lv_aload_n hx hb dX8_sorts_64 rfl (lv_at hl 0 rfl) ?_
      refine mg_0_27 hC hP tw_746 dX8_sorts_65 ?_
      refine lv_iload_n hx hb dX8_sorts_68 rfl (lv_at hl 1 rfl) ?_
      refine lv_dup2_11 hx hb dX8_sorts_69 rfl rfl ?_
      obtain ⟨g10, hf⟩ := grd_some hf
      refine ml_17 hC hP g10 dX8_sorts_70 ?_
      refine lv_aload_n hx hb dX8_sorts_71 rfl (lv_at hl 0 rfl) ?_
      refine mg_0_27 hC hP tw_746 dX8_sorts_72 ?_
      refine lv_iload_n hx hb dX8_sorts_75 rfl (lv_at hl 1 rfl) ?_
      refine lv_iconst (v := 1) hx hb dX8_sorts_76 (by decide) ?_
      refine lv_isub hx hb dX8_sorts_77 ?_
      obtain ⟨g11, hf⟩ := grd_some hf
      refine ml_17 hC hP g11 dX8_sorts_78 ?_
      refine lv_iadd hx hb dX8_sorts_79 ?_
      obtain ⟨g12, hf⟩ := grd_some hf
      refine ms_17 hC hP hS g12 dX8_sorts_80 (fun H locs hP hS => ?_)
      obtain ⟨σ13, eσ13, hf⟩ := lt_e hf
      rw [← eσ13] at hP
      refine lv_iinc (v := (x1 + 1)) (lv' := [(1, .int (x1 + 1)), (0, .ref (ad 0))]) hx hb dX8_sorts_81 hl (k := 1) rfl rfl (by decide) rfl (fun ls hl => ?_)
      refine lv_goto (tgt := 57) hx hb dX8_sorts_84 (by decide) ?_
      exact ih (x1 + 1) σ13 H locs ls hP hS (lv_sub hl [1, 0] rfl) hf
  have hw_89 : ∀ (n : Nat), ∀ (x1 : Int32) (σ : St) (H : Heap) (locs : List Loc) (ls : Array Slot), va_P D vwCl ((mw ad cI cZ) σ) H → va_S A s.heap H locs → lv_has ls 2 [(0, .ref (ad 0)), (1, .int x1)] → M_sorts_89 N n x1 σ = some τ → W p l e (rm_M_sorts) s m av.toArray below meth c H locs 0 0 (QV below av.toArray s D A (mw ad cI cZ) τ) (F0 m 89 ls []) := by
    intro n
    induction n with
    | zero =>
      intro x1 σ H locs ls hP hS hl hf
      cases hf
    | succ n ih =>
      intro x1 σ H locs ls hP hS hl hf
      rw [M_sorts_89_s] at hf
      refine lv_iload_n hx hb dX8_sorts_89 rfl (lv_at hl 1 rfl) ?_
      refine lv_aload_n hx hb dX8_sorts_90 rfl (lv_at hl 0 rfl) ?_
      refine mg_0_20 hC hP tw_739 dX8_sorts_91 ?_
      refine lv_icmp_ge (tgt := 135) hx hb dX8_sorts_94 (by decide) (fun c14 => ?_) (fun c14 => ?_)
      · rw [if_pos c14] at hf
        have h2 := Option.some.inj hf
        exact retV hx hb hr hlocks hP hS h2 dX8_sorts_135
      rw [if_neg c14] at hf
      refine lv_aload_n hx hb dX8_sorts_97 rfl (lv_at hl 0 rfl) ?_
      refine mg_0_26 hC hP tw_745 dX8_sorts_98 ?_
      refine lv_aload_n hx hb dX8_sorts_101 rfl (lv_at hl 0 rfl) ?_
      refine mg_0_27 hC hP tw_746 dX8_sorts_102 ?_
      refine lv_aload_n hx hb dX8_sorts_105 rfl (lv_at hl 0 rfl) ?_
      refine mg_0_23 hC hP tw_742 dX8_sorts_106 ?_
      refine lv_iload_n hx hb dX8_sorts_109 rfl (lv_at hl 1 rfl) ?_
      obtain ⟨g15, hf⟩ := grd_some hf
      refine ml_13 hC hP g15 dX8_sorts_110 ?_
      obtain ⟨g16, hf⟩ := grd_some hf
      refine ml_17 hC hP g16 dX8_sorts_111 ?_
      refine lv_iload_n hx hb dX8_sorts_112 rfl (lv_at hl 1 rfl) ?_
      obtain ⟨g17, hf⟩ := grd_some hf
      refine ms_16 hC hP hS g17 dX8_sorts_113 (fun H locs hP hS => ?_)
      obtain ⟨σ18, eσ18, hf⟩ := lt_e hf
      rw [← eσ18] at hP
      refine lv_aload_n hx hb dX8_sorts_114 rfl (lv_at hl 0 rfl) ?_
      refine mg_0_27 hC hP tw_746 dX8_sorts_115 ?_
      refine lv_aload_n hx hb dX8_sorts_118 rfl (lv_at hl 0 rfl) ?_
      refine mg_0_23 hC hP tw_742 dX8_sorts_119 ?_
      refine lv_iload_n hx hb dX8_sorts_122 rfl (lv_at hl 1 rfl) ?_
      obtain ⟨g19, hf⟩ := grd_some hf
      refine ml_13 hC hP g19 dX8_sorts_123 ?_
      refine lv_dup2_11 hx hb dX8_sorts_124 rfl rfl ?_
      obtain ⟨g20, hf⟩ := grd_some hf
      refine ml_17 hC hP g20 dX8_sorts_125 ?_
      refine lv_iconst (v := 1) hx hb dX8_sorts_126 (by decide) ?_
      refine lv_iadd hx hb dX8_sorts_127 ?_
      obtain ⟨g21, hf⟩ := grd_some hf
      refine ms_17 hC hP hS g21 dX8_sorts_128 (fun H locs hP hS => ?_)
      obtain ⟨σ22, eσ22, hf⟩ := lt_e hf
      rw [← eσ22] at hP
      refine lv_iinc (v := (x1 + 1)) (lv' := [(1, .int (x1 + 1)), (0, .ref (ad 0))]) hx hb dX8_sorts_129 hl (k := 1) rfl rfl (by decide) rfl (fun ls hl => ?_)
      refine lv_goto (tgt := 89) hx hb dX8_sorts_132 (by decide) ?_
      exact ih (x1 + 1) σ22 H locs ls hP hS (lv_sub hl [1, 0] rfl) hf
  obtain ⟨H, hH⟩ : ∃ z, z = s.heap := ⟨_, rfl⟩
  obtain ⟨locs, hlocs⟩ : ∃ z : List Loc, z = [] := ⟨_, rfl⟩
  rw [← hH] at hP
  have hS : va_S A s.heap H locs := by rw [hH, hlocs]; exact va_S.rf
  suffices hgoal : W p l e _ s m _ below meth c H locs 0 0 _ _ by rw [hH, hlocs] at hgoal; exact hgoal
  refine lv_iconst (v := 0) hx hb dX8_sorts_0 (by decide) ?_
  refine lv_istore_n (lv' := [(1, .int 0), (0, .ref (ad 0))]) hx hb dX8_sorts_1 rfl hl (by decide) rfl (fun ls hl => ?_)
  exact hw_2 (M_sorts_24 N (M_sorts_57 N (M_sorts_89 N N) N) N) (hw_24 (M_sorts_57 N (M_sorts_89 N N) N) (hw_57 (M_sorts_89 N N) (hw_89 N) N) N) N 0 σ0 H locs ls hP hS (lv_sub hl [1, 0] rfl) hf
theorem dX8_works_0 : decode cX8_works 0 = .ok (.aload_n 0, 1) := by decide +kernel
theorem dX8_works_1 : decode cX8_works 1 = .ok (.getfield 96, 3) := by decide +kernel
theorem dX8_works_4 : decode cX8_works 4 = .ok (.ifCond .eq 4, 3) := by decide +kernel
theorem dX8_works_7 : decode cX8_works 7 = .ok (.return_, 1) := by decide +kernel
theorem dX8_works_8 : decode cX8_works 8 = .ok (.aload_n 0, 1) := by decide +kernel
theorem dX8_works_9 : decode cX8_works 9 = .ok (.iconst 1, 1) := by decide +kernel
theorem dX8_works_10 : decode cX8_works 10 = .ok (.putfield 96, 3) := by decide +kernel
theorem dX8_works_13 : decode cX8_works 13 = .ok (.aload_n 0, 1) := by decide +kernel
theorem dX8_works_14 : decode cX8_works 14 = .ok (.iconst 0, 1) := by decide +kernel
theorem dX8_works_15 : decode cX8_works 15 = .ok (.putfield 139, 3) := by decide +kernel
theorem dX8_works_18 : decode cX8_works 18 = .ok (.aload_n 0, 1) := by decide +kernel
theorem dX8_works_19 : decode cX8_works 19 = .ok (.iconst 0, 1) := by decide +kernel
theorem dX8_works_20 : decode cX8_works 20 = .ok (.putfield 142, 3) := by decide +kernel
theorem dX8_works_23 : decode cX8_works 23 = .ok (.iconst 0, 1) := by decide +kernel
theorem dX8_works_24 : decode cX8_works 24 = .ok (.istore_n 1, 1) := by decide +kernel
theorem dX8_works_25 : decode cX8_works 25 = .ok (.iload_n 1, 1) := by decide +kernel
theorem dX8_works_26 : decode cX8_works 26 = .ok (.iconst 1, 1) := by decide +kernel
theorem dX8_works_27 : decode cX8_works 27 = .ok (.aload_n 0, 1) := by decide +kernel
theorem dX8_works_28 : decode cX8_works 28 = .ok (.getfield 87, 3) := by decide +kernel
theorem dX8_works_31 : decode cX8_works 31 = .ok (.ishl, 1) := by decide +kernel
theorem dX8_works_32 : decode cX8_works 32 = .ok (.if_icmp .ge 123, 3) := by decide +kernel
theorem dX8_works_35 : decode cX8_works 35 = .ok (.aload_n 0, 1) := by decide +kernel
theorem dX8_works_36 : decode cX8_works 36 = .ok (.getfield 69, 3) := by decide +kernel
theorem dX8_works_39 : decode cX8_works 39 = .ok (.iload_n 1, 1) := by decide +kernel
theorem dX8_works_40 : decode cX8_works 40 = .ok (.iconst (-1), 1) := by decide +kernel
theorem dX8_works_41 : decode cX8_works 41 = .ok (.iastore, 1) := by decide +kernel
theorem dX8_works_42 : decode cX8_works 42 = .ok (.aload_n 0, 1) := by decide +kernel
theorem dX8_works_43 : decode cX8_works 43 = .ok (.iload_n 1, 1) := by decide +kernel
theorem dX8_works_44 : decode cX8_works 44 = .ok (.invokevirtual 133, 3) := by decide +kernel
theorem dX8_works_47 : decode cX8_works 47 = .ok (.ifCond .ne 6, 3) := by decide +kernel
theorem dX8_works_50 : decode cX8_works 50 = .ok (.goto 99, 3) := by decide +kernel
theorem dX8_works_53 : decode cX8_works 53 = .ok (.aload_n 0, 1) := by decide +kernel
theorem dX8_works_54 : decode cX8_works 54 = .ok (.getfield 57, 3) := by decide +kernel
theorem dX8_works_57 : decode cX8_works 57 = .ok (.aload_n 0, 1) := by decide +kernel
theorem dX8_works_58 : decode cX8_works 58 = .ok (.getfield 139, 3) := by decide +kernel
theorem dX8_works_61 : decode cX8_works 61 = .ok (.aload_n 0, 1) := by decide +kernel
theorem dX8_works_62 : decode cX8_works 62 = .ok (.iload_n 1, 1) := by decide +kernel
theorem dX8_works_63 : decode cX8_works 63 = .ok (.invokevirtual 136, 3) := by decide +kernel
theorem dX8_works_66 : decode cX8_works 66 = .ok (.iastore, 1) := by decide +kernel
theorem dX8_works_67 : decode cX8_works 67 = .ok (.aload_n 0, 1) := by decide +kernel
theorem dX8_works_68 : decode cX8_works 68 = .ok (.getfield 57, 3) := by decide +kernel
theorem dX8_works_71 : decode cX8_works 71 = .ok (.aload_n 0, 1) := by decide +kernel
theorem dX8_works_72 : decode cX8_works 72 = .ok (.getfield 139, 3) := by decide +kernel
theorem dX8_works_75 : decode cX8_works 75 = .ok (.iaload, 1) := by decide +kernel
theorem dX8_works_76 : decode cX8_works 76 = .ok (.ifCond .ne 63, 3) := by decide +kernel
theorem dX8_works_79 : decode cX8_works 79 = .ok (.aload_n 0, 1) := by decide +kernel
theorem dX8_works_80 : decode cX8_works 80 = .ok (.getfield 60, 3) := by decide +kernel
theorem dX8_works_83 : decode cX8_works 83 = .ok (.aload_n 0, 1) := by decide +kernel
theorem dX8_works_84 : decode cX8_works 84 = .ok (.getfield 142, 3) := by decide +kernel
theorem dX8_works_87 : decode cX8_works 87 = .ok (.iload_n 1, 1) := by decide +kernel
theorem dX8_works_88 : decode cX8_works 88 = .ok (.iastore, 1) := by decide +kernel
theorem dX8_works_89 : decode cX8_works 89 = .ok (.aload_n 0, 1) := by decide +kernel
theorem dX8_works_90 : decode cX8_works 90 = .ok (.getfield 63, 3) := by decide +kernel
theorem dX8_works_93 : decode cX8_works 93 = .ok (.aload_n 0, 1) := by decide +kernel
theorem dX8_works_94 : decode cX8_works 94 = .ok (.getfield 142, 3) := by decide +kernel
theorem dX8_works_97 : decode cX8_works 97 = .ok (.aload_n 0, 1) := by decide +kernel
theorem dX8_works_98 : decode cX8_works 98 = .ok (.iload_n 1, 1) := by decide +kernel
theorem dX8_works_99 : decode cX8_works 99 = .ok (.iconst 0, 1) := by decide +kernel
theorem dX8_works_100 : decode cX8_works 100 = .ok (.invokevirtual 127, 3) := by decide +kernel
theorem dX8_works_103 : decode cX8_works 103 = .ok (.iastore, 1) := by decide +kernel
theorem dX8_works_104 : decode cX8_works 104 = .ok (.aload_n 0, 1) := by decide +kernel
theorem dX8_works_105 : decode cX8_works 105 = .ok (.getfield 66, 3) := by decide +kernel
theorem dX8_works_108 : decode cX8_works 108 = .ok (.aload_n 0, 1) := by decide +kernel
theorem dX8_works_109 : decode cX8_works 109 = .ok (.getfield 142, 3) := by decide +kernel
theorem dX8_works_112 : decode cX8_works 112 = .ok (.aload_n 0, 1) := by decide +kernel
theorem dX8_works_113 : decode cX8_works 113 = .ok (.iload_n 1, 1) := by decide +kernel
theorem dX8_works_114 : decode cX8_works 114 = .ok (.iconst 5, 1) := by decide +kernel
theorem dX8_works_115 : decode cX8_works 115 = .ok (.invokevirtual 127, 3) := by decide +kernel
theorem dX8_works_118 : decode cX8_works 118 = .ok (.iastore, 1) := by decide +kernel
theorem dX8_works_119 : decode cX8_works 119 = .ok (.aload_n 0, 1) := by decide +kernel
theorem dX8_works_120 : decode cX8_works 120 = .ok (.getfield 69, 3) := by decide +kernel
theorem dX8_works_123 : decode cX8_works 123 = .ok (.iload_n 1, 1) := by decide +kernel
theorem dX8_works_124 : decode cX8_works 124 = .ok (.aload_n 0, 1) := by decide +kernel
theorem dX8_works_125 : decode cX8_works 125 = .ok (.getfield 142, 3) := by decide +kernel
theorem dX8_works_128 : decode cX8_works 128 = .ok (.iastore, 1) := by decide +kernel
theorem dX8_works_129 : decode cX8_works 129 = .ok (.aload_n 0, 1) := by decide +kernel
theorem dX8_works_130 : decode cX8_works 130 = .ok (.dup, 1) := by decide +kernel
theorem dX8_works_131 : decode cX8_works 131 = .ok (.getfield 142, 3) := by decide +kernel
theorem dX8_works_134 : decode cX8_works 134 = .ok (.iconst 1, 1) := by decide +kernel
theorem dX8_works_135 : decode cX8_works 135 = .ok (.iadd, 1) := by decide +kernel
theorem dX8_works_136 : decode cX8_works 136 = .ok (.putfield 142, 3) := by decide +kernel
theorem dX8_works_139 : decode cX8_works 139 = .ok (.aload_n 0, 1) := by decide +kernel
theorem dX8_works_140 : decode cX8_works 140 = .ok (.dup, 1) := by decide +kernel
theorem dX8_works_141 : decode cX8_works 141 = .ok (.getfield 139, 3) := by decide +kernel
theorem dX8_works_144 : decode cX8_works 144 = .ok (.iconst 1, 1) := by decide +kernel
theorem dX8_works_145 : decode cX8_works 145 = .ok (.iadd, 1) := by decide +kernel
theorem dX8_works_146 : decode cX8_works 146 = .ok (.putfield 139, 3) := by decide +kernel
theorem dX8_works_149 : decode cX8_works 149 = .ok (.iinc 1 1, 3) := by decide +kernel
theorem dX8_works_152 : decode cX8_works 152 = .ok (.goto (-127), 3) := by decide +kernel
theorem dX8_works_155 : decode cX8_works 155 = .ok (.aload_n 0, 1) := by decide +kernel
theorem dX8_works_156 : decode cX8_works 156 = .ok (.invokevirtual 145, 3) := by decide +kernel
theorem dX8_works_159 : decode cX8_works 159 = .ok (.return_, 1) := by decide +kernel
def M_works_25 (N : Nat) (k_155 : St → Option (St)) : Nat → Int32 → St → Option (St)
  | 0, _, _ => none
  | n + 1, x1, σ => if ((1 : Int32) <<< ((σ.1 1) &&& 31)) ≤ x1 then k_155 σ else grd (inb x1 16384) (lt (sa σ 14 (x1).toNatClampNeg (-1)) (fun σ3 => bnd2 (M_isTree N x1 σ3) (fun y4 σ5 => if y4 = 0 then M_works_25 N k_155 n (x1 + 1) σ5 else bnd (M_broken N x1 σ5) (fun y7 => grd (inb (σ5.1 9) 3432) (lt (sa σ5 10 ((σ5.1 9)).toNatClampNeg y7) (fun σ9 => grd (inb (σ9.1 9) 3432) (if (σ9.2.1 10 ((σ9.1 9)).toNatClampNeg) = 0 then grd (inb (σ9.1 10) 3432) (lt (sa σ9 11 ((σ9.1 10)).toNatClampNeg x1) (fun σ14 => bnd (M_measured N x1 0 σ14) (fun y15 => grd (inb (σ14.1 10) 3432) (lt (sa σ14 12 ((σ14.1 10)).toNatClampNeg y15) (fun σ17 => bnd (M_measured N x1 5 σ17) (fun y18 => grd (inb (σ17.1 10) 3432) (lt (sa σ17 13 ((σ17.1 10)).toNatClampNeg y18) (fun σ20 => grd (inb x1 16384) (lt (sa σ20 14 (x1).toNatClampNeg (σ20.1 10)) (fun σ22 => lt (si σ22 10 ((σ22.1 10) + 1)) (fun σ23 => lt (si σ23 9 ((σ23.1 9) + 1)) (fun σ24 => M_works_25 N k_155 n (x1 + 1) σ24)))))))))))) else lt (si σ9 9 ((σ9.1 9) + 1)) (fun σ12 => M_works_25 N k_155 n (x1 + 1) σ12))))))))
theorem M_works_25_s (N : Nat) (k_155 : St → Option (St)) (n : Nat) (x1 : Int32) (σ : St) : M_works_25 N k_155 (n + 1) x1 σ = if ((1 : Int32) <<< ((σ.1 1) &&& 31)) ≤ x1 then k_155 σ else grd (inb x1 16384) (lt (sa σ 14 (x1).toNatClampNeg (-1)) (fun σ3 => bnd2 (M_isTree N x1 σ3) (fun y4 σ5 => if y4 = 0 then M_works_25 N k_155 n (x1 + 1) σ5 else bnd (M_broken N x1 σ5) (fun y7 => grd (inb (σ5.1 9) 3432) (lt (sa σ5 10 ((σ5.1 9)).toNatClampNeg y7) (fun σ9 => grd (inb (σ9.1 9) 3432) (if (σ9.2.1 10 ((σ9.1 9)).toNatClampNeg) = 0 then grd (inb (σ9.1 10) 3432) (lt (sa σ9 11 ((σ9.1 10)).toNatClampNeg x1) (fun σ14 => bnd (M_measured N x1 0 σ14) (fun y15 => grd (inb (σ14.1 10) 3432) (lt (sa σ14 12 ((σ14.1 10)).toNatClampNeg y15) (fun σ17 => bnd (M_measured N x1 5 σ17) (fun y18 => grd (inb (σ17.1 10) 3432) (lt (sa σ17 13 ((σ17.1 10)).toNatClampNeg y18) (fun σ20 => grd (inb x1 16384) (lt (sa σ20 14 (x1).toNatClampNeg (σ20.1 10)) (fun σ22 => lt (si σ22 10 ((σ22.1 10) + 1)) (fun σ23 => lt (si σ23 9 ((σ23.1 9) + 1)) (fun σ24 => M_works_25 N k_155 n (x1 + 1) σ24)))))))))))) else lt (si σ9 9 ((σ9.1 9) + 1)) (fun σ12 => M_works_25 N k_155 n (x1 + 1) σ12)))))))) := rfl
def M_works_155 (N : Nat)  (σ : St) : Option (St) := bnd (M_sorts N σ) (fun σ25 => some σ25)
def M_works (N : Nat)  (σ0 : St) : Option (St) := if (σ0.1 8) = 0 then lt (si σ0 8 1) (fun σ27 => lt (si σ27 9 0) (fun σ28 => lt (si σ28 10 0) (fun σ29 => M_works_25 N (M_works_155 N) N 0 σ29))) else some σ0
abbrev rm_M_works : Room := { frames := 4, cells := 0, slots := 0, locals := 94 }
set_option maxHeartbeats 4000000 in
set_option maxRecDepth 100000 in
theorem k_M_works (l : Launch) (ad : Nat → Nat) (cI cJ cZ : ClassId) {N : Nat}  {σ0 : St} {τ : St} (hf : M_works N σ0 = some τ) : CtV l yX8_works (gws (.code yX8_works cX8_works 2 none)) (rm_M_works) (ty3 cI cJ cZ) (mw ad cI cZ) [.ref (ad 0)] σ0 τ := by
  refine CtV.of (by decide) (mw_ok ad cI cZ) (Nat.le_of_ble_eq_true rfl) ?_
  generalize hav : ([.ref (ad 0)] : List Value) = av
  intro p e s m below meth c D A hC ls hl hP hS
  obtain ⟨hx, hb, hr, hlocks, hml, hown, hts, hK, hN, hD, hA⟩ := id hC
  rw [← hav] at hl
  have hl : lv_has ls 2 [(0, .ref (ad 0))] := hl
  unfold M_works at hf
  have hw_25 : ∀ (k_155 : St → Option (St)) (hk_155 : ∀  (σ : St) (H : Heap) (locs : List Loc) (ls : Array Slot), va_P D vwCl ((mw ad cI cZ) σ) H → va_S A s.heap H locs → lv_has ls 2 [(0, .ref (ad 0))] → k_155 σ = some τ → W p l e (rm_M_works) s m av.toArray below meth c H locs 0 0 (QV below av.toArray s D A (mw ad cI cZ) τ) (F0 m 155 ls [])), ∀ (n : Nat), ∀ (x1 : Int32) (σ : St) (H : Heap) (locs : List Loc) (ls : Array Slot), va_P D vwCl ((mw ad cI cZ) σ) H → va_S A s.heap H locs → lv_has ls 2 [(0, .ref (ad 0)), (1, .int x1)] → M_works_25 N k_155 n x1 σ = some τ → W p l e (rm_M_works) s m av.toArray below meth c H locs 0 0 (QV below av.toArray s D A (mw ad cI cZ) τ) (F0 m 25 ls []) := by
    intro k_155 hk_155
    intro n
    induction n with
    | zero =>
      intro x1 σ H locs ls hP hS hl hf
      cases hf
    | succ n ih =>
      intro x1 σ H locs ls hP hS hl hf
      rw [M_works_25_s] at hf
      refine lv_iload_n hx hb dX8_works_25 rfl (lv_at hl 1 rfl) ?_
      refine lv_iconst (v := 1) hx hb dX8_works_26 (by decide) ?_
      refine lv_aload_n hx hb dX8_works_27 rfl (lv_at hl 0 rfl) ?_
      refine mg_0_1 hC hP tw_720 dX8_works_28 ?_
      refine lv_ishl hx hb dX8_works_31 ?_
      refine lv_icmp_ge (tgt := 155) hx hb dX8_works_32 (by decide) (fun c1 => ?_) (fun c1 => ?_)
      · rw [if_pos c1] at hf
        exact hk_155 σ H locs ls hP hS (lv_sub hl [0] rfl) hf
      rw [if_neg c1] at hf
      refine lv_aload_n hx hb dX8_works_35 rfl (lv_at hl 0 rfl) ?_
      refine mg_0_25 hC hP tw_744 dX8_works_36 ?_
      refine lv_iload_n hx hb dX8_works_39 rfl (lv_at hl 1 rfl) ?_
      refine lv_iconst (v := (-1)) hx hb dX8_works_40 (by decide) ?_
      obtain ⟨g2, hf⟩ := grd_some hf
      refine ms_15 hC hP hS g2 dX8_works_41 (fun H locs hP hS => ?_)
      obtain ⟨σ3, eσ3, hf⟩ := lt_e hf
      rw [← eσ3] at hP
      refine lv_aload_n hx hb dX8_works_42 rfl (lv_at hl 0 rfl) ?_
      refine lv_iload_n hx hb dX8_works_43 rfl (lv_at hl 1 rfl) ?_
      obtain ⟨y4, σ5, hcy4, hf⟩ := bnd2_some hf
      refine cVi (As := [.int x1]) (rest := []) hC (k_M_isTree l ad cI cJ cZ hcy4) yy_X8_isTree tw_874 rfl rfl ⟨by decide, by decide⟩ hP hS (q0 := 0) (ci := 8) rfl rfl (mwa_0 ..) rfl hl.1 rfl (Nat.le_of_ble_eq_true rfl) dX8_works_44 (fun H locs hP hS => ?_)
      refine lv_if_ne (tgt := 53) hx hb dX8_works_47 (by decide) (fun c6 => ?_) (fun c6 => ?_)
      · rw [if_neg c6] at hf
        refine lv_aload_n hx hb dX8_works_53 rfl (lv_at hl 0 rfl) ?_
        refine mg_0_21 hC hP tw_740 dX8_works_54 ?_
        refine lv_aload_n hx hb dX8_works_57 rfl (lv_at hl 0 rfl) ?_
        refine mg_0_19 hC hP tw_738 dX8_works_58 ?_
        refine lv_aload_n hx hb dX8_works_61 rfl (lv_at hl 0 rfl) ?_
        refine lv_iload_n hx hb dX8_works_62 rfl (lv_at hl 1 rfl) ?_
        obtain ⟨y7, hcy7, hf⟩ := bnd_some hf
        refine cVi (As := [.int x1]) (rest := [.int (σ5.1 9), .ref (ad 11)]) hC (k_M_broken l ad cI cJ cZ hcy7) yy_X8_broken tw_892 rfl rfl ⟨by decide, by decide⟩ hP hS (q0 := 0) (ci := 8) rfl rfl (mwa_0 ..) rfl hl.1 rfl (Nat.le_of_ble_eq_true rfl) dX8_works_63 (fun H locs hP hS => ?_)
        obtain ⟨g8, hf⟩ := grd_some hf
        refine ms_11 hC hP hS g8 dX8_works_66 (fun H locs hP hS => ?_)
        obtain ⟨σ9, eσ9, hf⟩ := lt_e hf
        rw [← eσ9] at hP
        refine lv_aload_n hx hb dX8_works_67 rfl (lv_at hl 0 rfl) ?_
        refine mg_0_21 hC hP tw_740 dX8_works_68 ?_
        refine lv_aload_n hx hb dX8_works_71 rfl (lv_at hl 0 rfl) ?_
        refine mg_0_19 hC hP tw_738 dX8_works_72 ?_
        obtain ⟨g10, hf⟩ := grd_some hf
        refine ml_11 hC hP g10 dX8_works_75 ?_
        refine lv_if_ne (tgt := 139) hx hb dX8_works_76 (by decide) (fun c11 => ?_) (fun c11 => ?_)
        · rw [if_neg c11] at hf
          refine lv_aload_n hx hb dX8_works_139 rfl (lv_at hl 0 rfl) ?_
          refine lv_dup hx hb dX8_works_140 rfl ?_
          refine mg_0_19 hC hP tw_738 dX8_works_141 ?_
          refine lv_iconst (v := 1) hx hb dX8_works_144 (by decide) ?_
          refine lv_iadd hx hb dX8_works_145 ?_
          refine mp_0_19 hC hP hS tw_738 dX8_works_146 (fun H locs hP hS => ?_)
          obtain ⟨σ12, eσ12, hf⟩ := lt_e hf
          rw [← eσ12] at hP
          refine lv_iinc (v := (x1 + 1)) (lv' := [(1, .int (x1 + 1)), (0, .ref (ad 0))]) hx hb dX8_works_149 hl (k := 1) rfl rfl (by decide) rfl (fun ls hl => ?_)
          refine lv_goto (tgt := 25) hx hb dX8_works_152 (by decide) ?_
          exact ih (x1 + 1) σ12 H locs ls hP hS (lv_sub hl [1, 0] rfl) hf
        rw [if_pos c11] at hf
        refine lv_aload_n hx hb dX8_works_79 rfl (lv_at hl 0 rfl) ?_
        refine mg_0_22 hC hP tw_741 dX8_works_80 ?_
        refine lv_aload_n hx hb dX8_works_83 rfl (lv_at hl 0 rfl) ?_
        refine mg_0_20 hC hP tw_739 dX8_works_84 ?_
        refine lv_iload_n hx hb dX8_works_87 rfl (lv_at hl 1 rfl) ?_
        obtain ⟨g13, hf⟩ := grd_some hf
        refine ms_12 hC hP hS g13 dX8_works_88 (fun H locs hP hS => ?_)
        obtain ⟨σ14, eσ14, hf⟩ := lt_e hf
        rw [← eσ14] at hP
        refine lv_aload_n hx hb dX8_works_89 rfl (lv_at hl 0 rfl) ?_
        refine mg_0_23 hC hP tw_742 dX8_works_90 ?_
        refine lv_aload_n hx hb dX8_works_93 rfl (lv_at hl 0 rfl) ?_
        refine mg_0_20 hC hP tw_739 dX8_works_94 ?_
        refine lv_aload_n hx hb dX8_works_97 rfl (lv_at hl 0 rfl) ?_
        refine lv_iload_n hx hb dX8_works_98 rfl (lv_at hl 1 rfl) ?_
        refine lv_iconst (v := 0) hx hb dX8_works_99 (by decide) ?_
        obtain ⟨y15, hcy15, hf⟩ := bnd_some hf
        refine cVi (As := [.int x1, .int 0]) (rest := [.int (σ14.1 10), .ref (ad 13)]) hC (k_M_measured l ad cI cJ cZ hcy15) yy_X8_measured tw_900 rfl rfl ⟨by decide, by decide⟩ hP hS (q0 := 0) (ci := 8) rfl rfl (mwa_0 ..) rfl hl.1 rfl (Nat.le_of_ble_eq_true rfl) dX8_works_100 (fun H locs hP hS => ?_)
        obtain ⟨g16, hf⟩ := grd_some hf
        refine ms_13 hC hP hS g16 dX8_works_103 (fun H locs hP hS => ?_)
        obtain ⟨σ17, eσ17, hf⟩ := lt_e hf
        rw [← eσ17] at hP
        refine lv_aload_n hx hb dX8_works_104 rfl (lv_at hl 0 rfl) ?_
        refine mg_0_24 hC hP tw_743 dX8_works_105 ?_
        refine lv_aload_n hx hb dX8_works_108 rfl (lv_at hl 0 rfl) ?_
        refine mg_0_20 hC hP tw_739 dX8_works_109 ?_
        refine lv_aload_n hx hb dX8_works_112 rfl (lv_at hl 0 rfl) ?_
        refine lv_iload_n hx hb dX8_works_113 rfl (lv_at hl 1 rfl) ?_
        refine lv_iconst (v := 5) hx hb dX8_works_114 (by decide) ?_
        obtain ⟨y18, hcy18, hf⟩ := bnd_some hf
        refine cVi (As := [.int x1, .int 5]) (rest := [.int (σ17.1 10), .ref (ad 14)]) hC (k_M_measured l ad cI cJ cZ hcy18) yy_X8_measured tw_900 rfl rfl ⟨by decide, by decide⟩ hP hS (q0 := 0) (ci := 8) rfl rfl (mwa_0 ..) rfl hl.1 rfl (Nat.le_of_ble_eq_true rfl) dX8_works_115 (fun H locs hP hS => ?_)
        obtain ⟨g19, hf⟩ := grd_some hf
        refine ms_14 hC hP hS g19 dX8_works_118 (fun H locs hP hS => ?_)
        obtain ⟨σ20, eσ20, hf⟩ := lt_e hf
        rw [← eσ20] at hP
        refine lv_aload_n hx hb dX8_works_119 rfl (lv_at hl 0 rfl) ?_
        refine mg_0_25 hC hP tw_744 dX8_works_120 ?_
        refine lv_iload_n hx hb dX8_works_123 rfl (lv_at hl 1 rfl) ?_
        refine lv_aload_n hx hb dX8_works_124 rfl (lv_at hl 0 rfl) ?_
        refine mg_0_20 hC hP tw_739 dX8_works_125 ?_
        obtain ⟨g21, hf⟩ := grd_some hf
        refine ms_15 hC hP hS g21 dX8_works_128 (fun H locs hP hS => ?_)
        obtain ⟨σ22, eσ22, hf⟩ := lt_e hf
        rw [← eσ22] at hP
        refine lv_aload_n hx hb dX8_works_129 rfl (lv_at hl 0 rfl) ?_
        refine lv_dup hx hb dX8_works_130 rfl ?_
        refine mg_0_20 hC hP tw_739 dX8_works_131 ?_
        refine lv_iconst (v := 1) hx hb dX8_works_134 (by decide) ?_
        refine lv_iadd hx hb dX8_works_135 ?_
        refine mp_0_20 hC hP hS tw_739 dX8_works_136 (fun H locs hP hS => ?_)
        obtain ⟨σ23, eσ23, hf⟩ := lt_e hf
        rw [← eσ23] at hP
        refine lv_aload_n hx hb dX8_works_139 rfl (lv_at hl 0 rfl) ?_
        refine lv_dup hx hb dX8_works_140 rfl ?_
        refine mg_0_19 hC hP tw_738 dX8_works_141 ?_
        refine lv_iconst (v := 1) hx hb dX8_works_144 (by decide) ?_
        refine lv_iadd hx hb dX8_works_145 ?_
        refine mp_0_19 hC hP hS tw_738 dX8_works_146 (fun H locs hP hS => ?_)
        obtain ⟨σ24, eσ24, hf⟩ := lt_e hf
        rw [← eσ24] at hP
        refine lv_iinc (v := (x1 + 1)) (lv' := [(1, .int (x1 + 1)), (0, .ref (ad 0))]) hx hb dX8_works_149 hl (k := 1) rfl rfl (by decide) rfl (fun ls hl => ?_)
        refine lv_goto (tgt := 25) hx hb dX8_works_152 (by decide) ?_
        exact ih (x1 + 1) σ24 H locs ls hP hS (lv_sub hl [1, 0] rfl) hf
      rw [if_pos c6] at hf
      refine lv_goto (tgt := 149) hx hb dX8_works_50 (by decide) ?_
      refine lv_iinc (v := (x1 + 1)) (lv' := [(1, .int (x1 + 1)), (0, .ref (ad 0))]) hx hb dX8_works_149 hl (k := 1) rfl rfl (by decide) rfl (fun ls hl => ?_)
      refine lv_goto (tgt := 25) hx hb dX8_works_152 (by decide) ?_
      exact ih (x1 + 1) σ5 H locs ls hP hS (lv_sub hl [1, 0] rfl) hf
  have hw_155 : ∀  (σ : St) (H : Heap) (locs : List Loc) (ls : Array Slot), va_P D vwCl ((mw ad cI cZ) σ) H → va_S A s.heap H locs → lv_has ls 2 [(0, .ref (ad 0))] → M_works_155 N σ = some τ → W p l e (rm_M_works) s m av.toArray below meth c H locs 0 0 (QV below av.toArray s D A (mw ad cI cZ) τ) (F0 m 155 ls []) := by
    intro σ H locs ls hP hS hl hf
    unfold M_works_155 at hf
    refine lv_aload_n hx hb dX8_works_155 rfl (lv_at hl 0 rfl) ?_
    obtain ⟨σ25, hcσ25, hf⟩ := bnd_some hf
    refine cVv (As := []) (rest := []) hC (k_M_sorts l ad cI cJ cZ hcσ25) yy_X8_sorts tw_916 rfl rfl ⟨by decide, by decide⟩ hP hS (q0 := 0) (ci := 8) rfl rfl (mwa_0 ..) rfl hl.1 rfl (Nat.le_of_ble_eq_true rfl) dX8_works_156 (fun H locs hP hS => ?_)
    have h2 := Option.some.inj hf
    exact retV hx hb hr hlocks hP hS h2 dX8_works_159
  obtain ⟨H, hH⟩ : ∃ z, z = s.heap := ⟨_, rfl⟩
  obtain ⟨locs, hlocs⟩ : ∃ z : List Loc, z = [] := ⟨_, rfl⟩
  rw [← hH] at hP
  have hS : va_S A s.heap H locs := by rw [hH, hlocs]; exact va_S.rf
  suffices hgoal : W p l e _ s m _ below meth c H locs 0 0 _ _ by rw [hH, hlocs] at hgoal; exact hgoal
  refine lv_aload_n hx hb dX8_works_0 rfl (lv_at hl 0 rfl) ?_
  refine mg_0_18 hC hP tw_737 dX8_works_1 ?_
  refine lv_if_eq (tgt := 8) hx hb dX8_works_4 (by decide) (fun c26 => ?_) (fun c26 => ?_)
  · rw [if_pos c26] at hf
    refine lv_aload_n hx hb dX8_works_8 rfl (lv_at hl 0 rfl) ?_
    refine lv_iconst (v := 1) hx hb dX8_works_9 (by decide) ?_
    refine mp_0_18 hC hP hS (by first | exact Or.inl rfl | exact Or.inr rfl) tw_737 dX8_works_10 (fun H locs hP hS => ?_)
    obtain ⟨σ27, eσ27, hf⟩ := lt_e hf
    rw [← eσ27] at hP
    refine lv_aload_n hx hb dX8_works_13 rfl (lv_at hl 0 rfl) ?_
    refine lv_iconst (v := 0) hx hb dX8_works_14 (by decide) ?_
    refine mp_0_19 hC hP hS tw_738 dX8_works_15 (fun H locs hP hS => ?_)
    obtain ⟨σ28, eσ28, hf⟩ := lt_e hf
    rw [← eσ28] at hP
    refine lv_aload_n hx hb dX8_works_18 rfl (lv_at hl 0 rfl) ?_
    refine lv_iconst (v := 0) hx hb dX8_works_19 (by decide) ?_
    refine mp_0_20 hC hP hS tw_739 dX8_works_20 (fun H locs hP hS => ?_)
    obtain ⟨σ29, eσ29, hf⟩ := lt_e hf
    rw [← eσ29] at hP
    refine lv_iconst (v := 0) hx hb dX8_works_23 (by decide) ?_
    refine lv_istore_n (lv' := [(1, .int 0), (0, .ref (ad 0))]) hx hb dX8_works_24 rfl hl (by decide) rfl (fun ls hl => ?_)
    exact hw_25 (M_works_155 N) hw_155 N 0 σ29 H locs ls hP hS (lv_sub hl [1, 0] rfl) hf
  rw [if_neg c26] at hf
  have h2 := Option.some.inj hf
  exact retV hx hb hr hlocks hP hS h2 dX8_works_7
theorem dX8_many_0 : decode cX8_many 0 = .ok (.aload_n 0, 1) := by decide +kernel
theorem dX8_many_1 : decode cX8_many 1 = .ok (.invokevirtual 148, 3) := by decide +kernel
theorem dX8_many_4 : decode cX8_many 4 = .ok (.aload_n 0, 1) := by decide +kernel
theorem dX8_many_5 : decode cX8_many 5 = .ok (.getfield 142, 3) := by decide +kernel
theorem dX8_many_8 : decode cX8_many 8 = .ok (.ireturn, 1) := by decide +kernel
def M_many (N : Nat)  (σ0 : St) : Option (Int32 × St) := bnd (M_works N σ0) (fun σ1 => some ((σ1.1 10), σ1))
abbrev rm_M_many : Room := { frames := 5, cells := 0, slots := 0, locals := 115 }
set_option maxHeartbeats 4000000 in
set_option maxRecDepth 100000 in
theorem k_M_many (l : Launch) (ad : Nat → Nat) (cI cJ cZ : ClassId) {N : Nat}  {σ0 : St} {r : Int32} {τ : St} (hf : M_many N σ0 = some (r, τ)) : CtI l yX8_many (gws (.code yX8_many cX8_many 1 (some .int))) (rm_M_many) (ty3 cI cJ cZ) (mw ad cI cZ) [.ref (ad 0)] σ0 r τ := by
  refine CtI.of (by decide) (mw_ok ad cI cZ) (Nat.le_of_ble_eq_true rfl) ?_
  generalize hav : ([.ref (ad 0)] : List Value) = av
  intro p e s m below meth c D A hC ls hl hP hS
  obtain ⟨hx, hb, hr, hlocks, hml, hown, hts, hK, hN, hD, hA⟩ := id hC
  rw [← hav] at hl
  have hl : lv_has ls 1 [(0, .ref (ad 0))] := hl
  unfold M_many at hf
  obtain ⟨H, hH⟩ : ∃ z, z = s.heap := ⟨_, rfl⟩
  obtain ⟨locs, hlocs⟩ : ∃ z : List Loc, z = [] := ⟨_, rfl⟩
  rw [← hH] at hP
  have hS : va_S A s.heap H locs := by rw [hH, hlocs]; exact va_S.rf
  suffices hgoal : W p l e _ s m _ below meth c H locs 0 0 _ _ by rw [hH, hlocs] at hgoal; exact hgoal
  refine lv_aload_n hx hb dX8_many_0 rfl (lv_at hl 0 rfl) ?_
  obtain ⟨σ1, hcσ1, hf⟩ := bnd_some hf
  refine cVv (As := []) (rest := []) hC (k_M_works l ad cI cJ cZ hcσ1) yy_X8_works tw_912 rfl rfl ⟨by decide, by decide⟩ hP hS (q0 := 0) (ci := 8) rfl rfl (mwa_0 ..) rfl hl.1 rfl (Nat.le_of_ble_eq_true rfl) dX8_many_1 (fun H locs hP hS => ?_)
  refine lv_aload_n hx hb dX8_many_4 rfl (lv_at hl 0 rfl) ?_
  refine mg_0_20 hC hP tw_739 dX8_many_5 ?_
  obtain ⟨h1, h2⟩ := ret2 hf
  exact retI hx hb hr hlocks hP hS h1 h2 dX8_many_8
theorem dX8_good_0 : decode cX8_good 0 = .ok (.aload_n 0, 1) := by decide +kernel
theorem dX8_good_1 : decode cX8_good 1 = .ok (.invokevirtual 148, 3) := by decide +kernel
theorem dX8_good_4 : decode cX8_good 4 = .ok (.iload_n 1, 1) := by decide +kernel
theorem dX8_good_5 : decode cX8_good 5 = .ok (.iconst 0, 1) := by decide +kernel
theorem dX8_good_6 : decode cX8_good 6 = .ok (.aload_n 0, 1) := by decide +kernel
theorem dX8_good_7 : decode cX8_good 7 = .ok (.getfield 142, 3) := by decide +kernel
theorem dX8_good_10 : decode cX8_good 10 = .ok (.iconst 1, 1) := by decide +kernel
theorem dX8_good_11 : decode cX8_good 11 = .ok (.isub, 1) := by decide +kernel
theorem dX8_good_12 : decode cX8_good 12 = .ok (.invokestatic 100, 3) := by decide +kernel
theorem dX8_good_15 : decode cX8_good 15 = .ok (.ifCond .eq 12, 3) := by decide +kernel
theorem dX8_good_18 : decode cX8_good 18 = .ok (.aload_n 0, 1) := by decide +kernel
theorem dX8_good_19 : decode cX8_good 19 = .ok (.getfield 60, 3) := by decide +kernel
theorem dX8_good_22 : decode cX8_good 22 = .ok (.iload_n 1, 1) := by decide +kernel
theorem dX8_good_23 : decode cX8_good 23 = .ok (.iaload, 1) := by decide +kernel
theorem dX8_good_24 : decode cX8_good 24 = .ok (.goto 4, 3) := by decide +kernel
theorem dX8_good_27 : decode cX8_good 27 = .ok (.iconst (-1), 1) := by decide +kernel
theorem dX8_good_28 : decode cX8_good 28 = .ok (.ireturn, 1) := by decide +kernel
def M_good (N : Nat) (x1 : Int32) (σ0 : St) : Option (Int32 × St) := bnd (M_works N σ0) (fun σ1 => if (M_lies x1 0 ((σ1.1 10) - 1)) = 0 then some ((-1), σ1) else grd (inb x1 3432) (some ((σ1.2.1 11 (x1).toNatClampNeg), σ1)))
abbrev rm_M_good : Room := { frames := 5, cells := 0, slots := 0, locals := 115 }
set_option maxHeartbeats 4000000 in
set_option maxRecDepth 100000 in
theorem k_M_good (l : Launch) (ad : Nat → Nat) (cI cJ cZ : ClassId) {N : Nat} {x1 : Int32} {σ0 : St} {r : Int32} {τ : St} (hf : M_good N x1 σ0 = some (r, τ)) : CtI l yX8_good (gws (.code yX8_good cX8_good 2 (some .int))) (rm_M_good) (ty3 cI cJ cZ) (mw ad cI cZ) [.ref (ad 0), .int x1] σ0 r τ := by
  refine CtI.of (by decide) (mw_ok ad cI cZ) (Nat.le_of_ble_eq_true rfl) ?_
  generalize hav : ([.ref (ad 0), .int x1] : List Value) = av
  intro p e s m below meth c D A hC ls hl hP hS
  obtain ⟨hx, hb, hr, hlocks, hml, hown, hts, hK, hN, hD, hA⟩ := id hC
  rw [← hav] at hl
  have hl : lv_has ls 2 [(0, .ref (ad 0)), (1, .int x1)] := hl
  unfold M_good at hf
  obtain ⟨H, hH⟩ : ∃ z, z = s.heap := ⟨_, rfl⟩
  obtain ⟨locs, hlocs⟩ : ∃ z : List Loc, z = [] := ⟨_, rfl⟩
  rw [← hH] at hP
  have hS : va_S A s.heap H locs := by rw [hH, hlocs]; exact va_S.rf
  suffices hgoal : W p l e _ s m _ below meth c H locs 0 0 _ _ by rw [hH, hlocs] at hgoal; exact hgoal
  refine lv_aload_n hx hb dX8_good_0 rfl (lv_at hl 0 rfl) ?_
  obtain ⟨σ1, hcσ1, hf⟩ := bnd_some hf
  refine cVv (As := []) (rest := []) hC (k_M_works l ad cI cJ cZ hcσ1) yy_X8_works tw_912 rfl rfl ⟨by decide, by decide⟩ hP hS (q0 := 0) (ci := 8) rfl rfl (mwa_0 ..) rfl hl.1 rfl (Nat.le_of_ble_eq_true rfl) dX8_good_1 (fun H locs hP hS => ?_)
  refine lv_iload_n hx hb dX8_good_4 rfl (lv_at hl 1 rfl) ?_
  refine lv_iconst (v := 0) hx hb dX8_good_5 (by decide) ?_
  refine lv_aload_n hx hb dX8_good_6 rfl (lv_at hl 0 rfl) ?_
  refine mg_0_20 hC hP tw_739 dX8_good_7 ?_
  refine lv_iconst (v := 1) hx hb dX8_good_10 (by decide) ?_
  refine lv_isub hx hb dX8_good_11 ?_
  refine cSi (As := [.int x1, .int 0, .int ((σ1.1 10) - 1)]) (rest := []) hC (k_M_lies l (mw ad cI cZ) (mw_ok ad cI cZ) (ty3 cI cJ cZ) _ rfl) yy_X8_lies tw_815 rfl rfl ⟨by decide, by decide⟩ hP hS rfl hl.1 rfl (Nat.le_of_ble_eq_true rfl) dX8_good_12 (fun H locs hP hS => ?_)
  refine lv_if_eq (tgt := 27) hx hb dX8_good_15 (by decide) (fun c2 => ?_) (fun c2 => ?_)
  · rw [if_pos c2] at hf
    refine lv_iconst (v := (-1)) hx hb dX8_good_27 (by decide) ?_
    obtain ⟨h1, h2⟩ := ret2 hf
    exact retI hx hb hr hlocks hP hS h1 h2 dX8_good_28
  rw [if_neg c2] at hf
  refine lv_aload_n hx hb dX8_good_18 rfl (lv_at hl 0 rfl) ?_
  refine mg_0_22 hC hP tw_741 dX8_good_19 ?_
  refine lv_iload_n hx hb dX8_good_22 rfl (lv_at hl 1 rfl) ?_
  obtain ⟨g3, hf⟩ := grd_some hf
  refine ml_12 hC hP g3 dX8_good_23 ?_
  refine lv_goto (tgt := 28) hx hb dX8_good_24 (by decide) ?_
  obtain ⟨h1, h2⟩ := ret2 hf
  exact retI hx hb hr hlocks hP hS h1 h2 dX8_good_28
theorem dX8_ranked_0 : decode cX8_ranked 0 = .ok (.aload_n 0, 1) := by decide +kernel
theorem dX8_ranked_1 : decode cX8_ranked 1 = .ok (.invokevirtual 148, 3) := by decide +kernel
theorem dX8_ranked_4 : decode cX8_ranked 4 = .ok (.iload_n 1, 1) := by decide +kernel
theorem dX8_ranked_5 : decode cX8_ranked 5 = .ok (.iconst 0, 1) := by decide +kernel
theorem dX8_ranked_6 : decode cX8_ranked 6 = .ok (.aload_n 0, 1) := by decide +kernel
theorem dX8_ranked_7 : decode cX8_ranked 7 = .ok (.getfield 142, 3) := by decide +kernel
theorem dX8_ranked_10 : decode cX8_ranked 10 = .ok (.iconst 1, 1) := by decide +kernel
theorem dX8_ranked_11 : decode cX8_ranked 11 = .ok (.isub, 1) := by decide +kernel
theorem dX8_ranked_12 : decode cX8_ranked 12 = .ok (.invokestatic 100, 3) := by decide +kernel
theorem dX8_ranked_15 : decode cX8_ranked 15 = .ok (.ifCond .eq 17, 3) := by decide +kernel
theorem dX8_ranked_18 : decode cX8_ranked 18 = .ok (.aload_n 0, 1) := by decide +kernel
theorem dX8_ranked_19 : decode cX8_ranked 19 = .ok (.getfield 60, 3) := by decide +kernel
theorem dX8_ranked_22 : decode cX8_ranked 22 = .ok (.aload_n 0, 1) := by decide +kernel
theorem dX8_ranked_23 : decode cX8_ranked 23 = .ok (.getfield 72, 3) := by decide +kernel
theorem dX8_ranked_26 : decode cX8_ranked 26 = .ok (.iload_n 1, 1) := by decide +kernel
theorem dX8_ranked_27 : decode cX8_ranked 27 = .ok (.iaload, 1) := by decide +kernel
theorem dX8_ranked_28 : decode cX8_ranked 28 = .ok (.iaload, 1) := by decide +kernel
theorem dX8_ranked_29 : decode cX8_ranked 29 = .ok (.goto 4, 3) := by decide +kernel
theorem dX8_ranked_32 : decode cX8_ranked 32 = .ok (.iconst (-1), 1) := by decide +kernel
theorem dX8_ranked_33 : decode cX8_ranked 33 = .ok (.ireturn, 1) := by decide +kernel
def M_ranked (N : Nat) (x1 : Int32) (σ0 : St) : Option (Int32 × St) := bnd (M_works N σ0) (fun σ1 => if (M_lies x1 0 ((σ1.1 10) - 1)) = 0 then some ((-1), σ1) else grd (inb x1 3432) (grd (inb (σ1.2.1 15 (x1).toNatClampNeg) 3432) (some ((σ1.2.1 11 ((σ1.2.1 15 (x1).toNatClampNeg)).toNatClampNeg), σ1))))
abbrev rm_M_ranked : Room := { frames := 5, cells := 0, slots := 0, locals := 115 }
set_option maxHeartbeats 4000000 in
set_option maxRecDepth 100000 in
theorem k_M_ranked (l : Launch) (ad : Nat → Nat) (cI cJ cZ : ClassId) {N : Nat} {x1 : Int32} {σ0 : St} {r : Int32} {τ : St} (hf : M_ranked N x1 σ0 = some (r, τ)) : CtI l yX8_ranked (gws (.code yX8_ranked cX8_ranked 2 (some .int))) (rm_M_ranked) (ty3 cI cJ cZ) (mw ad cI cZ) [.ref (ad 0), .int x1] σ0 r τ := by
  refine CtI.of (by decide) (mw_ok ad cI cZ) (Nat.le_of_ble_eq_true rfl) ?_
  generalize hav : ([.ref (ad 0), .int x1] : List Value) = av
  intro p e s m below meth c D A hC ls hl hP hS
  obtain ⟨hx, hb, hr, hlocks, hml, hown, hts, hK, hN, hD, hA⟩ := id hC
  rw [← hav] at hl
  have hl : lv_has ls 2 [(0, .ref (ad 0)), (1, .int x1)] := hl
  unfold M_ranked at hf
  obtain ⟨H, hH⟩ : ∃ z, z = s.heap := ⟨_, rfl⟩
  obtain ⟨locs, hlocs⟩ : ∃ z : List Loc, z = [] := ⟨_, rfl⟩
  rw [← hH] at hP
  have hS : va_S A s.heap H locs := by rw [hH, hlocs]; exact va_S.rf
  suffices hgoal : W p l e _ s m _ below meth c H locs 0 0 _ _ by rw [hH, hlocs] at hgoal; exact hgoal
  refine lv_aload_n hx hb dX8_ranked_0 rfl (lv_at hl 0 rfl) ?_
  obtain ⟨σ1, hcσ1, hf⟩ := bnd_some hf
  refine cVv (As := []) (rest := []) hC (k_M_works l ad cI cJ cZ hcσ1) yy_X8_works tw_912 rfl rfl ⟨by decide, by decide⟩ hP hS (q0 := 0) (ci := 8) rfl rfl (mwa_0 ..) rfl hl.1 rfl (Nat.le_of_ble_eq_true rfl) dX8_ranked_1 (fun H locs hP hS => ?_)
  refine lv_iload_n hx hb dX8_ranked_4 rfl (lv_at hl 1 rfl) ?_
  refine lv_iconst (v := 0) hx hb dX8_ranked_5 (by decide) ?_
  refine lv_aload_n hx hb dX8_ranked_6 rfl (lv_at hl 0 rfl) ?_
  refine mg_0_20 hC hP tw_739 dX8_ranked_7 ?_
  refine lv_iconst (v := 1) hx hb dX8_ranked_10 (by decide) ?_
  refine lv_isub hx hb dX8_ranked_11 ?_
  refine cSi (As := [.int x1, .int 0, .int ((σ1.1 10) - 1)]) (rest := []) hC (k_M_lies l (mw ad cI cZ) (mw_ok ad cI cZ) (ty3 cI cJ cZ) _ rfl) yy_X8_lies tw_815 rfl rfl ⟨by decide, by decide⟩ hP hS rfl hl.1 rfl (Nat.le_of_ble_eq_true rfl) dX8_ranked_12 (fun H locs hP hS => ?_)
  refine lv_if_eq (tgt := 32) hx hb dX8_ranked_15 (by decide) (fun c2 => ?_) (fun c2 => ?_)
  · rw [if_pos c2] at hf
    refine lv_iconst (v := (-1)) hx hb dX8_ranked_32 (by decide) ?_
    obtain ⟨h1, h2⟩ := ret2 hf
    exact retI hx hb hr hlocks hP hS h1 h2 dX8_ranked_33
  rw [if_neg c2] at hf
  refine lv_aload_n hx hb dX8_ranked_18 rfl (lv_at hl 0 rfl) ?_
  refine mg_0_22 hC hP tw_741 dX8_ranked_19 ?_
  refine lv_aload_n hx hb dX8_ranked_22 rfl (lv_at hl 0 rfl) ?_
  refine mg_0_26 hC hP tw_745 dX8_ranked_23 ?_
  refine lv_iload_n hx hb dX8_ranked_26 rfl (lv_at hl 1 rfl) ?_
  obtain ⟨g3, hf⟩ := grd_some hf
  refine ml_16 hC hP g3 dX8_ranked_27 ?_
  obtain ⟨g4, hf⟩ := grd_some hf
  refine ml_12 hC hP g4 dX8_ranked_28 ?_
  refine lv_goto (tgt := 33) hx hb dX8_ranked_29 (by decide) ?_
  obtain ⟨h1, h2⟩ := ret2 hf
  exact retI hx hb hr hlocks hP hS h1 h2 dX8_ranked_33
theorem dX8_best_0 : decode cX8_best 0 = .ok (.iconst (-1), 1) := by decide +kernel
theorem dX8_best_1 : decode cX8_best 1 = .ok (.istore_n 3, 1) := by decide +kernel
theorem dX8_best_2 : decode cX8_best 2 = .ok (.iconst 0, 1) := by decide +kernel
theorem dX8_best_3 : decode cX8_best 3 = .ok (.istore 4, 2) := by decide +kernel
theorem dX8_best_5 : decode cX8_best 5 = .ok (.iload 4, 2) := by decide +kernel
theorem dX8_best_7 : decode cX8_best 7 = .ok (.aload_n 0, 1) := by decide +kernel
theorem dX8_best_8 : decode cX8_best 8 = .ok (.getfield 142, 3) := by decide +kernel
theorem dX8_best_11 : decode cX8_best 11 = .ok (.if_icmp .ge 56, 3) := by decide +kernel
theorem dX8_best_14 : decode cX8_best 14 = .ok (.iload_n 1, 1) := by decide +kernel
theorem dX8_best_15 : decode cX8_best 15 = .ok (.iconst (-1), 1) := by decide +kernel
theorem dX8_best_16 : decode cX8_best 16 = .ok (.if_icmp .eq 21, 3) := by decide +kernel
theorem dX8_best_19 : decode cX8_best 19 = .ok (.aload_n 0, 1) := by decide +kernel
theorem dX8_best_20 : decode cX8_best 20 = .ok (.getfield 60, 3) := by decide +kernel
theorem dX8_best_23 : decode cX8_best 23 = .ok (.iload 4, 2) := by decide +kernel
theorem dX8_best_25 : decode cX8_best 25 = .ok (.iaload, 1) := by decide +kernel
theorem dX8_best_26 : decode cX8_best 26 = .ok (.iload_n 1, 1) := by decide +kernel
theorem dX8_best_27 : decode cX8_best 27 = .ok (.invokestatic 115, 3) := by decide +kernel
theorem dX8_best_30 : decode cX8_best 30 = .ok (.iload_n 2, 1) := by decide +kernel
theorem dX8_best_31 : decode cX8_best 31 = .ok (.if_icmp .eq 6, 3) := by decide +kernel
theorem dX8_best_34 : decode cX8_best 34 = .ok (.goto 27, 3) := by decide +kernel
theorem dX8_best_37 : decode cX8_best 37 = .ok (.iload_n 3, 1) := by decide +kernel
theorem dX8_best_38 : decode cX8_best 38 = .ok (.iconst (-1), 1) := by decide +kernel
theorem dX8_best_39 : decode cX8_best 39 = .ok (.if_icmp .eq 19, 3) := by decide +kernel
theorem dX8_best_42 : decode cX8_best 42 = .ok (.aload_n 0, 1) := by decide +kernel
theorem dX8_best_43 : decode cX8_best 43 = .ok (.getfield 63, 3) := by decide +kernel
theorem dX8_best_46 : decode cX8_best 46 = .ok (.iload 4, 2) := by decide +kernel
theorem dX8_best_48 : decode cX8_best 48 = .ok (.iaload, 1) := by decide +kernel
theorem dX8_best_49 : decode cX8_best 49 = .ok (.aload_n 0, 1) := by decide +kernel
theorem dX8_best_50 : decode cX8_best 50 = .ok (.getfield 63, 3) := by decide +kernel
theorem dX8_best_53 : decode cX8_best 53 = .ok (.iload_n 3, 1) := by decide +kernel
theorem dX8_best_54 : decode cX8_best 54 = .ok (.iaload, 1) := by decide +kernel
theorem dX8_best_55 : decode cX8_best 55 = .ok (.if_icmp .ge 6, 3) := by decide +kernel
theorem dX8_best_58 : decode cX8_best 58 = .ok (.iload 4, 2) := by decide +kernel
theorem dX8_best_60 : decode cX8_best 60 = .ok (.istore_n 3, 1) := by decide +kernel
theorem dX8_best_61 : decode cX8_best 61 = .ok (.iinc 4 1, 3) := by decide +kernel
theorem dX8_best_64 : decode cX8_best 64 = .ok (.goto (-59), 3) := by decide +kernel
theorem dX8_best_67 : decode cX8_best 67 = .ok (.iload_n 3, 1) := by decide +kernel
theorem dX8_best_68 : decode cX8_best 68 = .ok (.ireturn, 1) := by decide +kernel
def M_best_37 (N : Nat) (k_5 : Int32 → Int32 → Int32 → Int32 → St → Option (Int32)) (x1 : Int32) (x2 : Int32) (x3 : Int32) (x4 : Int32) (σ0 : St) : Option (Int32) := if x3 = (-1) then k_5 x1 x2 x4 (x4 + 1) σ0 else grd (inb x4 3432) (grd (inb x3 3432) (if (σ0.2.1 12 (x3).toNatClampNeg) ≤ (σ0.2.1 12 (x4).toNatClampNeg) then k_5 x1 x2 x3 (x4 + 1) σ0 else k_5 x1 x2 x4 (x4 + 1) σ0))
def M_best_5 (N : Nat) : Nat → Int32 → Int32 → Int32 → Int32 → St → Option (Int32)
  | 0, _, _, _, _, _ => none
  | n + 1, x1, x2, x3, x4, σ0 => if (σ0.1 10) ≤ x4 then some x3 else if x1 = (-1) then M_best_37 N (M_best_5 N n) x1 x2 x3 x4 σ0 else grd (inb x4 3432) (if (M_has (σ0.2.1 11 (x4).toNatClampNeg) x1) = x2 then M_best_37 N (M_best_5 N n) x1 x2 x3 x4 σ0 else M_best_5 N n x1 x2 x3 (x4 + 1) σ0)
theorem M_best_5_s (N : Nat) (n : Nat) (x1 : Int32) (x2 : Int32) (x3 : Int32) (x4 : Int32) (σ0 : St) : M_best_5 N (n + 1) x1 x2 x3 x4 σ0 = if (σ0.1 10) ≤ x4 then some x3 else if x1 = (-1) then M_best_37 N (M_best_5 N n) x1 x2 x3 x4 σ0 else grd (inb x4 3432) (if (M_has (σ0.2.1 11 (x4).toNatClampNeg) x1) = x2 then M_best_37 N (M_best_5 N n) x1 x2 x3 x4 σ0 else M_best_5 N n x1 x2 x3 (x4 + 1) σ0) := rfl
def M_best (N : Nat) (x1 : Int32) (x2 : Int32) (σ0 : St) : Option (Int32) := M_best_5 N N x1 x2 (-1) 0 σ0
abbrev rm_M_best : Room := { frames := 1, cells := 0, slots := 0, locals := 21 }
set_option maxHeartbeats 4000000 in
set_option maxRecDepth 100000 in
theorem k_M_best (l : Launch) (ad : Nat → Nat) (cI cJ cZ : ClassId) {N : Nat} {x1 : Int32} {x2 : Int32} {σ0 : St} {r : Int32} (hf : M_best N x1 x2 σ0 = some r) : CtI l yX8_best (gws (.code yX8_best cX8_best 5 (some .int))) (rm_M_best) (ty3 cI cJ cZ) (mw ad cI cZ) [.ref (ad 0), .int x1, .int x2] σ0 r σ0 := by
  refine CtI.of (by decide) (mw_ok ad cI cZ) (Nat.le_of_ble_eq_true rfl) ?_
  generalize hav : ([.ref (ad 0), .int x1, .int x2] : List Value) = av
  intro p e s m below meth c D A hC ls hl hP hS
  obtain ⟨hx, hb, hr, hlocks, hml, hown, hts, hK, hN, hD, hA⟩ := id hC
  rw [← hav] at hl
  have hl : lv_has ls 5 [(0, .ref (ad 0)), (1, .int x1), (2, .int x2)] := hl
  unfold M_best at hf
  have hw_37 : ∀ (k_5 : Int32 → Int32 → Int32 → Int32 → St → Option (Int32)) (hk_5 : ∀ (x1 : Int32) (x2 : Int32) (x3 : Int32) (x4 : Int32) (H : Heap) (locs : List Loc) (ls : Array Slot), va_P D vwCl ((mw ad cI cZ) σ0) H → va_S A s.heap H locs → lv_has ls 5 [(0, .ref (ad 0)), (1, .int x1), (2, .int x2), (3, .int x3), (4, .int x4)] → k_5 x1 x2 x3 x4 σ0 = some r → W p l e (rm_M_best) s m av.toArray below meth c H locs 0 0 (QI below av.toArray s D A (mw ad cI cZ) r σ0) (F0 m 5 ls [])), ∀ (x1 : Int32) (x2 : Int32) (x3 : Int32) (x4 : Int32) (H : Heap) (locs : List Loc) (ls : Array Slot), va_P D vwCl ((mw ad cI cZ) σ0) H → va_S A s.heap H locs → lv_has ls 5 [(0, .ref (ad 0)), (1, .int x1), (2, .int x2), (3, .int x3), (4, .int x4)] → M_best_37 N k_5 x1 x2 x3 x4 σ0 = some r → W p l e (rm_M_best) s m av.toArray below meth c H locs 0 0 (QI below av.toArray s D A (mw ad cI cZ) r σ0) (F0 m 37 ls []) := by
    intro k_5 hk_5 x1 x2 x3 x4 H locs ls hP hS hl hf
    unfold M_best_37 at hf
    refine lv_iload_n hx hb dX8_best_37 rfl (lv_at hl 3 rfl) ?_
    refine lv_iconst (v := (-1)) hx hb dX8_best_38 (by decide) ?_
    refine lv_icmp_eq (tgt := 58) hx hb dX8_best_39 (by decide) (fun c1 => ?_) (fun c1 => ?_)
    · rw [if_pos c1] at hf
      refine lv_iload hx hb dX8_best_58 (lv_at hl 4 rfl) ?_
      refine lv_istore_n (lv' := [(3, .int x4), (0, .ref (ad 0)), (1, .int x1), (2, .int x2), (4, .int x4)]) hx hb dX8_best_60 rfl hl (by decide) rfl (fun ls hl => ?_)
      refine lv_iinc (v := (x4 + 1)) (lv' := [(4, .int (x4 + 1)), (3, .int x4), (0, .ref (ad 0)), (1, .int x1), (2, .int x2)]) hx hb dX8_best_61 hl (k := 4) rfl rfl (by decide) rfl (fun ls hl => ?_)
      refine lv_goto (tgt := 5) hx hb dX8_best_64 (by decide) ?_
      exact hk_5 x1 x2 x4 (x4 + 1) H locs ls hP hS (lv_sub hl [2, 3, 4, 1, 0] rfl) hf
    rw [if_neg c1] at hf
    refine lv_aload_n hx hb dX8_best_42 rfl (lv_at hl 0 rfl) ?_
    refine mg_0_23 hC hP tw_742 dX8_best_43 ?_
    refine lv_iload hx hb dX8_best_46 (lv_at hl 4 rfl) ?_
    obtain ⟨g2, hf⟩ := grd_some hf
    refine ml_13 hC hP g2 dX8_best_48 ?_
    refine lv_aload_n hx hb dX8_best_49 rfl (lv_at hl 0 rfl) ?_
    refine mg_0_23 hC hP tw_742 dX8_best_50 ?_
    refine lv_iload_n hx hb dX8_best_53 rfl (lv_at hl 3 rfl) ?_
    obtain ⟨g3, hf⟩ := grd_some hf
    refine ml_13 hC hP g3 dX8_best_54 ?_
    refine lv_icmp_ge (tgt := 61) hx hb dX8_best_55 (by decide) (fun c4 => ?_) (fun c4 => ?_)
    · rw [if_pos c4] at hf
      refine lv_iinc (v := (x4 + 1)) (lv' := [(4, .int (x4 + 1)), (0, .ref (ad 0)), (1, .int x1), (2, .int x2), (3, .int x3)]) hx hb dX8_best_61 hl (k := 4) rfl rfl (by decide) rfl (fun ls hl => ?_)
      refine lv_goto (tgt := 5) hx hb dX8_best_64 (by decide) ?_
      exact hk_5 x1 x2 x3 (x4 + 1) H locs ls hP hS (lv_sub hl [1, 2, 3, 4, 0] rfl) hf
    rw [if_neg c4] at hf
    refine lv_iload hx hb dX8_best_58 (lv_at hl 4 rfl) ?_
    refine lv_istore_n (lv' := [(3, .int x4), (0, .ref (ad 0)), (1, .int x1), (2, .int x2), (4, .int x4)]) hx hb dX8_best_60 rfl hl (by decide) rfl (fun ls hl => ?_)
    refine lv_iinc (v := (x4 + 1)) (lv' := [(4, .int (x4 + 1)), (3, .int x4), (0, .ref (ad 0)), (1, .int x1), (2, .int x2)]) hx hb dX8_best_61 hl (k := 4) rfl rfl (by decide) rfl (fun ls hl => ?_)
    refine lv_goto (tgt := 5) hx hb dX8_best_64 (by decide) ?_
    exact hk_5 x1 x2 x4 (x4 + 1) H locs ls hP hS (lv_sub hl [2, 3, 4, 1, 0] rfl) hf
  have hw_5 : ∀ (n : Nat), ∀ (x1 : Int32) (x2 : Int32) (x3 : Int32) (x4 : Int32) (H : Heap) (locs : List Loc) (ls : Array Slot), va_P D vwCl ((mw ad cI cZ) σ0) H → va_S A s.heap H locs → lv_has ls 5 [(0, .ref (ad 0)), (1, .int x1), (2, .int x2), (3, .int x3), (4, .int x4)] → M_best_5 N n x1 x2 x3 x4 σ0 = some r → W p l e (rm_M_best) s m av.toArray below meth c H locs 0 0 (QI below av.toArray s D A (mw ad cI cZ) r σ0) (F0 m 5 ls []) := by
    intro n
    induction n with
    | zero =>
      intro x1 x2 x3 x4 H locs ls hP hS hl hf
      cases hf
    | succ n ih =>
      intro x1 x2 x3 x4 H locs ls hP hS hl hf
      rw [M_best_5_s] at hf
      refine lv_iload hx hb dX8_best_5 (lv_at hl 4 rfl) ?_
      refine lv_aload_n hx hb dX8_best_7 rfl (lv_at hl 0 rfl) ?_
      refine mg_0_20 hC hP tw_739 dX8_best_8 ?_
      refine lv_icmp_ge (tgt := 67) hx hb dX8_best_11 (by decide) (fun c5 => ?_) (fun c5 => ?_)
      · rw [if_pos c5] at hf
        refine lv_iload_n hx hb dX8_best_67 rfl (lv_at hl 3 rfl) ?_
        have h1 := Option.some.inj hf
        exact retI hx hb hr hlocks hP hS h1 rfl dX8_best_68
      rw [if_neg c5] at hf
      refine lv_iload_n hx hb dX8_best_14 rfl (lv_at hl 1 rfl) ?_
      refine lv_iconst (v := (-1)) hx hb dX8_best_15 (by decide) ?_
      refine lv_icmp_eq (tgt := 37) hx hb dX8_best_16 (by decide) (fun c6 => ?_) (fun c6 => ?_)
      · rw [if_pos c6] at hf
        exact hw_37 (M_best_5 N n) ih x1 x2 x3 x4 H locs ls hP hS (lv_sub hl [0, 1, 2, 3, 4] rfl) hf
      rw [if_neg c6] at hf
      refine lv_aload_n hx hb dX8_best_19 rfl (lv_at hl 0 rfl) ?_
      refine mg_0_22 hC hP tw_741 dX8_best_20 ?_
      refine lv_iload hx hb dX8_best_23 (lv_at hl 4 rfl) ?_
      obtain ⟨g7, hf⟩ := grd_some hf
      refine ml_12 hC hP g7 dX8_best_25 ?_
      refine lv_iload_n hx hb dX8_best_26 rfl (lv_at hl 1 rfl) ?_
      refine cSi (As := [.int (σ0.2.1 11 (x4).toNatClampNeg), .int x1]) (rest := []) hC (k_M_has l (mw ad cI cZ) (mw_ok ad cI cZ) (ty3 cI cJ cZ) _ rfl) yy_X8_has tw_881 rfl rfl ⟨by decide, by decide⟩ hP hS rfl hl.1 rfl (Nat.le_of_ble_eq_true rfl) dX8_best_27 (fun H locs hP hS => ?_)
      refine lv_iload_n hx hb dX8_best_30 rfl (lv_at hl 2 rfl) ?_
      refine lv_icmp_eq (tgt := 37) hx hb dX8_best_31 (by decide) (fun c8 => ?_) (fun c8 => ?_)
      · rw [if_pos c8] at hf
        exact hw_37 (M_best_5 N n) ih x1 x2 x3 x4 H locs ls hP hS (lv_sub hl [0, 1, 2, 3, 4] rfl) hf
      rw [if_neg c8] at hf
      refine lv_goto (tgt := 61) hx hb dX8_best_34 (by decide) ?_
      refine lv_iinc (v := (x4 + 1)) (lv' := [(4, .int (x4 + 1)), (0, .ref (ad 0)), (1, .int x1), (2, .int x2), (3, .int x3)]) hx hb dX8_best_61 hl (k := 4) rfl rfl (by decide) rfl (fun ls hl => ?_)
      refine lv_goto (tgt := 5) hx hb dX8_best_64 (by decide) ?_
      exact ih x1 x2 x3 (x4 + 1) H locs ls hP hS (lv_sub hl [1, 2, 3, 4, 0] rfl) hf
  obtain ⟨H, hH⟩ : ∃ z, z = s.heap := ⟨_, rfl⟩
  obtain ⟨locs, hlocs⟩ : ∃ z : List Loc, z = [] := ⟨_, rfl⟩
  rw [← hH] at hP
  have hS : va_S A s.heap H locs := by rw [hH, hlocs]; exact va_S.rf
  suffices hgoal : W p l e _ s m _ below meth c H locs 0 0 _ _ by rw [hH, hlocs] at hgoal; exact hgoal
  refine lv_iconst (v := (-1)) hx hb dX8_best_0 (by decide) ?_
  refine lv_istore_n (lv' := [(3, .int (-1)), (0, .ref (ad 0)), (1, .int x1), (2, .int x2)]) hx hb dX8_best_1 rfl hl (by decide) rfl (fun ls hl => ?_)
  refine lv_iconst (v := 0) hx hb dX8_best_2 (by decide) ?_
  refine lv_istore (lv' := [(4, .int 0), (3, .int (-1)), (0, .ref (ad 0)), (1, .int x1), (2, .int x2)]) hx hb dX8_best_3 hl (by decide) rfl (fun ls hl => ?_)
  exact hw_5 N x1 x2 (-1) 0 H locs ls hP hS (lv_sub hl [2, 3, 4, 1, 0] rfl) hf
theorem dX8_slack_0 : decode cX8_slack 0 = .ok (.aload_n 0, 1) := by decide +kernel
theorem dX8_slack_1 : decode cX8_slack 1 = .ok (.invokevirtual 148, 3) := by decide +kernel
theorem dX8_slack_4 : decode cX8_slack 4 = .ok (.aload_n 0, 1) := by decide +kernel
theorem dX8_slack_5 : decode cX8_slack 5 = .ok (.iload_n 1, 1) := by decide +kernel
theorem dX8_slack_6 : decode cX8_slack 6 = .ok (.invokevirtual 108, 3) := by decide +kernel
theorem dX8_slack_9 : decode cX8_slack 9 = .ok (.ifCond .eq 19, 3) := by decide +kernel
theorem dX8_slack_12 : decode cX8_slack 12 = .ok (.aload_n 0, 1) := by decide +kernel
theorem dX8_slack_13 : decode cX8_slack 13 = .ok (.getfield 38, 3) := by decide +kernel
theorem dX8_slack_16 : decode cX8_slack 16 = .ok (.iload_n 1, 1) := by decide +kernel
theorem dX8_slack_17 : decode cX8_slack 17 = .ok (.baload, 1) := by decide +kernel
theorem dX8_slack_18 : decode cX8_slack 18 = .ok (.ifCond .ne 10, 3) := by decide +kernel
theorem dX8_slack_21 : decode cX8_slack 21 = .ok (.aload_n 0, 1) := by decide +kernel
theorem dX8_slack_22 : decode cX8_slack 22 = .ok (.getfield 142, 3) := by decide +kernel
theorem dX8_slack_25 : decode cX8_slack 25 = .ok (.ifCond .ne 5, 3) := by decide +kernel
theorem dX8_slack_28 : decode cX8_slack 28 = .ok (.iconst (-1), 1) := by decide +kernel
theorem dX8_slack_29 : decode cX8_slack 29 = .ok (.ireturn, 1) := by decide +kernel
theorem dX8_slack_30 : decode cX8_slack 30 = .ok (.aload_n 0, 1) := by decide +kernel
theorem dX8_slack_31 : decode cX8_slack 31 = .ok (.iconst (-1), 1) := by decide +kernel
theorem dX8_slack_32 : decode cX8_slack 32 = .ok (.iconst 1, 1) := by decide +kernel
theorem dX8_slack_33 : decode cX8_slack 33 = .ok (.invokevirtual 151, 3) := by decide +kernel
theorem dX8_slack_36 : decode cX8_slack 36 = .ok (.istore_n 2, 1) := by decide +kernel
theorem dX8_slack_37 : decode cX8_slack 37 = .ok (.aload_n 0, 1) := by decide +kernel
theorem dX8_slack_38 : decode cX8_slack 38 = .ok (.iload_n 1, 1) := by decide +kernel
theorem dX8_slack_39 : decode cX8_slack 39 = .ok (.aload_n 0, 1) := by decide +kernel
theorem dX8_slack_40 : decode cX8_slack 40 = .ok (.getfield 60, 3) := by decide +kernel
theorem dX8_slack_43 : decode cX8_slack 43 = .ok (.iload_n 2, 1) := by decide +kernel
theorem dX8_slack_44 : decode cX8_slack 44 = .ok (.iaload, 1) := by decide +kernel
theorem dX8_slack_45 : decode cX8_slack 45 = .ok (.iload_n 1, 1) := by decide +kernel
theorem dX8_slack_46 : decode cX8_slack 46 = .ok (.invokestatic 115, 3) := by decide +kernel
theorem dX8_slack_49 : decode cX8_slack 49 = .ok (.ifCond .ne 7, 3) := by decide +kernel
theorem dX8_slack_52 : decode cX8_slack 52 = .ok (.iconst 1, 1) := by decide +kernel
theorem dX8_slack_53 : decode cX8_slack 53 = .ok (.goto 4, 3) := by decide +kernel
theorem dX8_slack_56 : decode cX8_slack 56 = .ok (.iconst 0, 1) := by decide +kernel
theorem dX8_slack_57 : decode cX8_slack 57 = .ok (.invokevirtual 151, 3) := by decide +kernel
theorem dX8_slack_60 : decode cX8_slack 60 = .ok (.istore_n 3, 1) := by decide +kernel
theorem dX8_slack_61 : decode cX8_slack 61 = .ok (.iload_n 3, 1) := by decide +kernel
theorem dX8_slack_62 : decode cX8_slack 62 = .ok (.iconst (-1), 1) := by decide +kernel
theorem dX8_slack_63 : decode cX8_slack 63 = .ok (.if_icmp .ne 7, 3) := by decide +kernel
theorem dX8_slack_66 : decode cX8_slack 66 = .ok (.iconst (-1), 1) := by decide +kernel
theorem dX8_slack_67 : decode cX8_slack 67 = .ok (.goto 16, 3) := by decide +kernel
theorem dX8_slack_70 : decode cX8_slack 70 = .ok (.aload_n 0, 1) := by decide +kernel
theorem dX8_slack_71 : decode cX8_slack 71 = .ok (.getfield 63, 3) := by decide +kernel
theorem dX8_slack_74 : decode cX8_slack 74 = .ok (.iload_n 3, 1) := by decide +kernel
theorem dX8_slack_75 : decode cX8_slack 75 = .ok (.iaload, 1) := by decide +kernel
theorem dX8_slack_76 : decode cX8_slack 76 = .ok (.aload_n 0, 1) := by decide +kernel
theorem dX8_slack_77 : decode cX8_slack 77 = .ok (.getfield 63, 3) := by decide +kernel
theorem dX8_slack_80 : decode cX8_slack 80 = .ok (.iload_n 2, 1) := by decide +kernel
theorem dX8_slack_81 : decode cX8_slack 81 = .ok (.iaload, 1) := by decide +kernel
theorem dX8_slack_82 : decode cX8_slack 82 = .ok (.isub, 1) := by decide +kernel
theorem dX8_slack_83 : decode cX8_slack 83 = .ok (.ireturn, 1) := by decide +kernel
def M_slack_57 (N : Nat) (x2 : Int32) (t0 : Int32) (t1 : Int32) (σ : St) : Option (Int32 × St) := bnd (M_best N t1 t0 σ) (fun y1 => if y1 = (-1) then some ((-1), σ) else grd (inb y1 3432) (grd (inb x2 3432) (some (((σ.2.1 12 (y1).toNatClampNeg) - (σ.2.1 12 (x2).toNatClampNeg)), σ))))
def M_slack (N : Nat) (x1 : Int32) (σ0 : St) : Option (Int32 × St) := bnd (M_works N σ0) (fun σ5 => if (M_isLine x1 σ5) = 0 then some ((-1), σ5) else grd (inb x1 14) (if (σ5.2.1 4 (x1).toNatClampNeg) = 0 then if (σ5.1 10) = 0 then some ((-1), σ5) else bnd (M_best N (-1) 1 σ5) (fun y10 => grd (inb y10 3432) (if (M_has (σ5.2.1 11 (y10).toNatClampNeg) x1) = 0 then M_slack_57 N y10 1 x1 σ5 else M_slack_57 N y10 0 x1 σ5)) else some ((-1), σ5)))
abbrev rm_M_slack : Room := { frames := 5, cells := 0, slots := 0, locals := 115 }
set_option maxHeartbeats 4000000 in
set_option maxRecDepth 100000 in
theorem k_M_slack (l : Launch) (ad : Nat → Nat) (cI cJ cZ : ClassId) {N : Nat} {x1 : Int32} {σ0 : St} {r : Int32} {τ : St} (hf : M_slack N x1 σ0 = some (r, τ)) : CtI l yX8_slack (gws (.code yX8_slack cX8_slack 4 (some .int))) (rm_M_slack) (ty3 cI cJ cZ) (mw ad cI cZ) [.ref (ad 0), .int x1] σ0 r τ := by
  refine CtI.of (by decide) (mw_ok ad cI cZ) (Nat.le_of_ble_eq_true rfl) ?_
  generalize hav : ([.ref (ad 0), .int x1] : List Value) = av
  intro p e s m below meth c D A hC ls hl hP hS
  obtain ⟨hx, hb, hr, hlocks, hml, hown, hts, hK, hN, hD, hA⟩ := id hC
  rw [← hav] at hl
  have hl : lv_has ls 4 [(0, .ref (ad 0)), (1, .int x1)] := hl
  unfold M_slack at hf
  have hw_57 : ∀ (x2 : Int32) (t0 : Int32) (t1 : Int32) (σ : St) (H : Heap) (locs : List Loc) (ls : Array Slot), va_P D vwCl ((mw ad cI cZ) σ) H → va_S A s.heap H locs → lv_has ls 4 [(0, .ref (ad 0)), (2, .int x2)] → M_slack_57 N x2 t0 t1 σ = some (r, τ) → W p l e (rm_M_slack) s m av.toArray below meth c H locs 0 0 (QI below av.toArray s D A (mw ad cI cZ) r τ) (F0 m 57 ls [.int t0, .int t1, .ref (ad 0)]) := by
    intro x2 t0 t1 σ H locs ls hP hS hl hf
    unfold M_slack_57 at hf
    obtain ⟨y1, hcy1, hf⟩ := bnd_some hf
    refine cVi (As := [.int t1, .int t0]) (rest := []) hC (k_M_best l ad cI cJ cZ hcy1) yy_X8_best tw_932 rfl rfl ⟨by decide, by decide⟩ hP hS (q0 := 0) (ci := 8) rfl rfl (mwa_0 ..) rfl hl.1 rfl (Nat.le_of_ble_eq_true rfl) dX8_slack_57 (fun H locs hP hS => ?_)
    refine lv_istore_n (lv' := [(3, .int y1), (0, .ref (ad 0)), (2, .int x2)]) hx hb dX8_slack_60 rfl hl (by decide) rfl (fun ls hl => ?_)
    refine lv_iload_n hx hb dX8_slack_61 rfl (lv_at hl 0 rfl) ?_
    refine lv_iconst (v := (-1)) hx hb dX8_slack_62 (by decide) ?_
    refine lv_icmp_ne (tgt := 70) hx hb dX8_slack_63 (by decide) (fun c2 => ?_) (fun c2 => ?_)
    · rw [if_neg c2] at hf
      refine lv_aload_n hx hb dX8_slack_70 rfl (lv_at hl 1 rfl) ?_
      refine mg_0_23 hC hP tw_742 dX8_slack_71 ?_
      refine lv_iload_n hx hb dX8_slack_74 rfl (lv_at hl 0 rfl) ?_
      obtain ⟨g3, hf⟩ := grd_some hf
      refine ml_13 hC hP g3 dX8_slack_75 ?_
      refine lv_aload_n hx hb dX8_slack_76 rfl (lv_at hl 1 rfl) ?_
      refine mg_0_23 hC hP tw_742 dX8_slack_77 ?_
      refine lv_iload_n hx hb dX8_slack_80 rfl (lv_at hl 2 rfl) ?_
      obtain ⟨g4, hf⟩ := grd_some hf
      refine ml_13 hC hP g4 dX8_slack_81 ?_
      refine lv_isub hx hb dX8_slack_82 ?_
      obtain ⟨h1, h2⟩ := ret2 hf
      exact retI hx hb hr hlocks hP hS h1 h2 dX8_slack_83
    rw [if_pos c2] at hf
    refine lv_iconst (v := (-1)) hx hb dX8_slack_66 (by decide) ?_
    refine lv_goto (tgt := 83) hx hb dX8_slack_67 (by decide) ?_
    obtain ⟨h1, h2⟩ := ret2 hf
    exact retI hx hb hr hlocks hP hS h1 h2 dX8_slack_83
  obtain ⟨H, hH⟩ : ∃ z, z = s.heap := ⟨_, rfl⟩
  obtain ⟨locs, hlocs⟩ : ∃ z : List Loc, z = [] := ⟨_, rfl⟩
  rw [← hH] at hP
  have hS : va_S A s.heap H locs := by rw [hH, hlocs]; exact va_S.rf
  suffices hgoal : W p l e _ s m _ below meth c H locs 0 0 _ _ by rw [hH, hlocs] at hgoal; exact hgoal
  refine lv_aload_n hx hb dX8_slack_0 rfl (lv_at hl 0 rfl) ?_
  obtain ⟨σ5, hcσ5, hf⟩ := bnd_some hf
  refine cVv (As := []) (rest := []) hC (k_M_works l ad cI cJ cZ hcσ5) yy_X8_works tw_912 rfl rfl ⟨by decide, by decide⟩ hP hS (q0 := 0) (ci := 8) rfl rfl (mwa_0 ..) rfl hl.1 rfl (Nat.le_of_ble_eq_true rfl) dX8_slack_1 (fun H locs hP hS => ?_)
  refine lv_aload_n hx hb dX8_slack_4 rfl (lv_at hl 0 rfl) ?_
  refine lv_iload_n hx hb dX8_slack_5 rfl (lv_at hl 1 rfl) ?_
  refine cVi (As := [.int x1]) (rest := []) hC (k_M_isLine l ad cI cJ cZ rfl) yy_X8_isLine tw_830 rfl rfl ⟨by decide, by decide⟩ hP hS (q0 := 0) (ci := 8) rfl rfl (mwa_0 ..) rfl hl.1 rfl (Nat.le_of_ble_eq_true rfl) dX8_slack_6 (fun H locs hP hS => ?_)
  refine lv_if_eq (tgt := 28) hx hb dX8_slack_9 (by decide) (fun c6 => ?_) (fun c6 => ?_)
  · rw [if_pos c6] at hf
    refine lv_iconst (v := (-1)) hx hb dX8_slack_28 (by decide) ?_
    obtain ⟨h1, h2⟩ := ret2 hf
    exact retI hx hb hr hlocks hP hS h1 h2 dX8_slack_29
  rw [if_neg c6] at hf
  refine lv_aload_n hx hb dX8_slack_12 rfl (lv_at hl 0 rfl) ?_
  refine mg_0_12 hC hP tw_731 dX8_slack_13 ?_
  refine lv_iload_n hx hb dX8_slack_16 rfl (lv_at hl 1 rfl) ?_
  obtain ⟨g7, hf⟩ := grd_some hf
  refine ml_5 hC hP g7 dX8_slack_17 ?_
  refine lv_if_ne (tgt := 28) hx hb dX8_slack_18 (by decide) (fun c8 => ?_) (fun c8 => ?_)
  · rw [if_neg c8] at hf
    refine lv_iconst (v := (-1)) hx hb dX8_slack_28 (by decide) ?_
    obtain ⟨h1, h2⟩ := ret2 hf
    exact retI hx hb hr hlocks hP hS h1 h2 dX8_slack_29
  rw [if_pos c8] at hf
  refine lv_aload_n hx hb dX8_slack_21 rfl (lv_at hl 0 rfl) ?_
  refine mg_0_20 hC hP tw_739 dX8_slack_22 ?_
  refine lv_if_ne (tgt := 30) hx hb dX8_slack_25 (by decide) (fun c9 => ?_) (fun c9 => ?_)
  · rw [if_neg c9] at hf
    refine lv_aload_n hx hb dX8_slack_30 rfl (lv_at hl 0 rfl) ?_
    refine lv_iconst (v := (-1)) hx hb dX8_slack_31 (by decide) ?_
    refine lv_iconst (v := 1) hx hb dX8_slack_32 (by decide) ?_
    obtain ⟨y10, hcy10, hf⟩ := bnd_some hf
    refine cVi (As := [.int (-1), .int 1]) (rest := []) hC (k_M_best l ad cI cJ cZ hcy10) yy_X8_best tw_932 rfl rfl ⟨by decide, by decide⟩ hP hS (q0 := 0) (ci := 8) rfl rfl (mwa_0 ..) rfl hl.1 rfl (Nat.le_of_ble_eq_true rfl) dX8_slack_33 (fun H locs hP hS => ?_)
    refine lv_istore_n (lv' := [(2, .int y10), (0, .ref (ad 0)), (1, .int x1)]) hx hb dX8_slack_36 rfl hl (by decide) rfl (fun ls hl => ?_)
    refine lv_aload_n hx hb dX8_slack_37 rfl (lv_at hl 1 rfl) ?_
    refine lv_iload_n hx hb dX8_slack_38 rfl (lv_at hl 2 rfl) ?_
    refine lv_aload_n hx hb dX8_slack_39 rfl (lv_at hl 1 rfl) ?_
    refine mg_0_22 hC hP tw_741 dX8_slack_40 ?_
    refine lv_iload_n hx hb dX8_slack_43 rfl (lv_at hl 0 rfl) ?_
    obtain ⟨g11, hf⟩ := grd_some hf
    refine ml_12 hC hP g11 dX8_slack_44 ?_
    refine lv_iload_n hx hb dX8_slack_45 rfl (lv_at hl 2 rfl) ?_
    refine cSi (As := [.int (σ5.2.1 11 (y10).toNatClampNeg), .int x1]) (rest := [.int x1, .ref (ad 0)]) hC (k_M_has l (mw ad cI cZ) (mw_ok ad cI cZ) (ty3 cI cJ cZ) _ rfl) yy_X8_has tw_881 rfl rfl ⟨by decide, by decide⟩ hP hS rfl hl.1 rfl (Nat.le_of_ble_eq_true rfl) dX8_slack_46 (fun H locs hP hS => ?_)
    refine lv_if_ne (tgt := 56) hx hb dX8_slack_49 (by decide) (fun c12 => ?_) (fun c12 => ?_)
    · rw [if_neg c12] at hf
      refine lv_iconst (v := 0) hx hb dX8_slack_56 (by decide) ?_
      exact hw_57 y10 0 x1 σ5 H locs ls hP hS (lv_sub hl [1, 0] rfl) hf
    rw [if_pos c12] at hf
    refine lv_iconst (v := 1) hx hb dX8_slack_52 (by decide) ?_
    refine lv_goto (tgt := 57) hx hb dX8_slack_53 (by decide) ?_
    exact hw_57 y10 1 x1 σ5 H locs ls hP hS (lv_sub hl [1, 0] rfl) hf
  rw [if_pos c9] at hf
  refine lv_iconst (v := (-1)) hx hb dX8_slack_28 (by decide) ?_
  obtain ⟨h1, h2⟩ := ret2 hf
  exact retI hx hb hr hlocks hP hS h1 h2 dX8_slack_29
theorem dX8_bar_0 : decode cX8_bar 0 = .ok (.aload_n 0, 1) := by decide +kernel
theorem dX8_bar_1 : decode cX8_bar 1 = .ok (.invokevirtual 148, 3) := by decide +kernel
theorem dX8_bar_4 : decode cX8_bar 4 = .ok (.aload_n 0, 1) := by decide +kernel
theorem dX8_bar_5 : decode cX8_bar 5 = .ok (.getfield 142, 3) := by decide +kernel
theorem dX8_bar_8 : decode cX8_bar 8 = .ok (.ifCond .le 5, 3) := by decide +kernel
theorem dX8_bar_11 : decode cX8_bar 11 = .ok (.iconst (-1), 1) := by decide +kernel
theorem dX8_bar_12 : decode cX8_bar 12 = .ok (.ireturn, 1) := by decide +kernel
theorem dX8_bar_13 : decode cX8_bar 13 = .ok (.iconst (-1), 1) := by decide +kernel
theorem dX8_bar_14 : decode cX8_bar 14 = .ok (.istore_n 1, 1) := by decide +kernel
theorem dX8_bar_15 : decode cX8_bar 15 = .ok (.iconst 0, 1) := by decide +kernel
theorem dX8_bar_16 : decode cX8_bar 16 = .ok (.istore_n 2, 1) := by decide +kernel
theorem dX8_bar_17 : decode cX8_bar 17 = .ok (.iload_n 2, 1) := by decide +kernel
theorem dX8_bar_18 : decode cX8_bar 18 = .ok (.bipush 32, 2) := by decide +kernel
theorem dX8_bar_20 : decode cX8_bar 20 = .ok (.if_icmp .ge 73, 3) := by decide +kernel
theorem dX8_bar_23 : decode cX8_bar 23 = .ok (.iconst 0, 1) := by decide +kernel
theorem dX8_bar_24 : decode cX8_bar 24 = .ok (.istore_n 3, 1) := by decide +kernel
theorem dX8_bar_25 : decode cX8_bar 25 = .ok (.iconst 0, 1) := by decide +kernel
theorem dX8_bar_26 : decode cX8_bar 26 = .ok (.istore 4, 2) := by decide +kernel
theorem dX8_bar_28 : decode cX8_bar 28 = .ok (.iload 4, 2) := by decide +kernel
theorem dX8_bar_30 : decode cX8_bar 30 = .ok (.aload_n 0, 1) := by decide +kernel
theorem dX8_bar_31 : decode cX8_bar 31 = .ok (.getfield 139, 3) := by decide +kernel
theorem dX8_bar_34 : decode cX8_bar 34 = .ok (.if_icmp .ge 31, 3) := by decide +kernel
theorem dX8_bar_37 : decode cX8_bar 37 = .ok (.iload_n 3, 1) := by decide +kernel
theorem dX8_bar_38 : decode cX8_bar 38 = .ok (.ifCond .ne 15, 3) := by decide +kernel
theorem dX8_bar_41 : decode cX8_bar 41 = .ok (.aload_n 0, 1) := by decide +kernel
theorem dX8_bar_42 : decode cX8_bar 42 = .ok (.getfield 57, 3) := by decide +kernel
theorem dX8_bar_45 : decode cX8_bar 45 = .ok (.iload 4, 2) := by decide +kernel
theorem dX8_bar_47 : decode cX8_bar 47 = .ok (.iaload, 1) := by decide +kernel
theorem dX8_bar_48 : decode cX8_bar 48 = .ok (.iload_n 2, 1) := by decide +kernel
theorem dX8_bar_49 : decode cX8_bar 49 = .ok (.iand, 1) := by decide +kernel
theorem dX8_bar_50 : decode cX8_bar 50 = .ok (.ifCond .ne 7, 3) := by decide +kernel
theorem dX8_bar_53 : decode cX8_bar 53 = .ok (.iconst 1, 1) := by decide +kernel
theorem dX8_bar_54 : decode cX8_bar 54 = .ok (.goto 4, 3) := by decide +kernel
theorem dX8_bar_57 : decode cX8_bar 57 = .ok (.iconst 0, 1) := by decide +kernel
theorem dX8_bar_58 : decode cX8_bar 58 = .ok (.istore_n 3, 1) := by decide +kernel
theorem dX8_bar_59 : decode cX8_bar 59 = .ok (.iinc 4 1, 3) := by decide +kernel
theorem dX8_bar_62 : decode cX8_bar 62 = .ok (.goto (-34), 3) := by decide +kernel
theorem dX8_bar_65 : decode cX8_bar 65 = .ok (.iload_n 3, 1) := by decide +kernel
theorem dX8_bar_66 : decode cX8_bar 66 = .ok (.ifCond .ne 21, 3) := by decide +kernel
theorem dX8_bar_69 : decode cX8_bar 69 = .ok (.iload_n 1, 1) := by decide +kernel
theorem dX8_bar_70 : decode cX8_bar 70 = .ok (.iconst (-1), 1) := by decide +kernel
theorem dX8_bar_71 : decode cX8_bar 71 = .ok (.if_icmp .eq 14, 3) := by decide +kernel
theorem dX8_bar_74 : decode cX8_bar 74 = .ok (.iload_n 2, 1) := by decide +kernel
theorem dX8_bar_75 : decode cX8_bar 75 = .ok (.invokestatic 111, 3) := by decide +kernel
theorem dX8_bar_78 : decode cX8_bar 78 = .ok (.iload_n 1, 1) := by decide +kernel
theorem dX8_bar_79 : decode cX8_bar 79 = .ok (.invokestatic 111, 3) := by decide +kernel
theorem dX8_bar_82 : decode cX8_bar 82 = .ok (.if_icmp .ge 5, 3) := by decide +kernel
theorem dX8_bar_85 : decode cX8_bar 85 = .ok (.iload_n 2, 1) := by decide +kernel
theorem dX8_bar_86 : decode cX8_bar 86 = .ok (.istore_n 1, 1) := by decide +kernel
theorem dX8_bar_87 : decode cX8_bar 87 = .ok (.iinc 2 1, 3) := by decide +kernel
theorem dX8_bar_90 : decode cX8_bar 90 = .ok (.goto (-73), 3) := by decide +kernel
theorem dX8_bar_93 : decode cX8_bar 93 = .ok (.iload_n 1, 1) := by decide +kernel
theorem dX8_bar_94 : decode cX8_bar 94 = .ok (.ireturn, 1) := by decide +kernel
def M_bar_28 (N : Nat) (k_65 : Int32 → Int32 → Int32 → St → Option (Int32 × St)) : Nat → Int32 → Int32 → Int32 → Int32 → St → Option (Int32 × St)
  | 0, _, _, _, _, _ => none
  | n + 1, x1, x2, x3, x4, σ => if (σ.1 9) ≤ x4 then k_65 x1 x2 x3 σ else if x3 = 0 then grd (inb x4 3432) (if ((σ.2.1 10 (x4).toNatClampNeg) &&& x2) = 0 then M_bar_28 N k_65 n x1 x2 1 (x4 + 1) σ else M_bar_28 N k_65 n x1 x2 0 (x4 + 1) σ) else M_bar_28 N k_65 n x1 x2 1 (x4 + 1) σ
theorem M_bar_28_s (N : Nat) (k_65 : Int32 → Int32 → Int32 → St → Option (Int32 × St)) (n : Nat) (x1 : Int32) (x2 : Int32) (x3 : Int32) (x4 : Int32) (σ : St) : M_bar_28 N k_65 (n + 1) x1 x2 x3 x4 σ = if (σ.1 9) ≤ x4 then k_65 x1 x2 x3 σ else if x3 = 0 then grd (inb x4 3432) (if ((σ.2.1 10 (x4).toNatClampNeg) &&& x2) = 0 then M_bar_28 N k_65 n x1 x2 1 (x4 + 1) σ else M_bar_28 N k_65 n x1 x2 0 (x4 + 1) σ) else M_bar_28 N k_65 n x1 x2 1 (x4 + 1) σ := rfl
def M_bar_65 (N : Nat) (k_17 : Int32 → Int32 → St → Option (Int32 × St)) (x1 : Int32) (x2 : Int32) (x3 : Int32) (σ : St) : Option (Int32 × St) := if x3 = 0 then if x1 = (-1) then k_17 x2 (x2 + 1) σ else bnd (M_sizeOf N x2) (fun y7 => bnd (M_sizeOf N x1) (fun y8 => if y8 ≤ y7 then k_17 x1 (x2 + 1) σ else k_17 x2 (x2 + 1) σ)) else k_17 x1 (x2 + 1) σ
def M_bar_17 (N : Nat) : Nat → Int32 → Int32 → St → Option (Int32 × St)
  | 0, _, _, _ => none
  | n + 1, x1, x2, σ => if 32 ≤ x2 then some (x1, σ) else M_bar_28 N (M_bar_65 N (M_bar_17 N n)) N x1 x2 0 0 σ
theorem M_bar_17_s (N : Nat) (n : Nat) (x1 : Int32) (x2 : Int32) (σ : St) : M_bar_17 N (n + 1) x1 x2 σ = if 32 ≤ x2 then some (x1, σ) else M_bar_28 N (M_bar_65 N (M_bar_17 N n)) N x1 x2 0 0 σ := rfl
def M_bar (N : Nat)  (σ0 : St) : Option (Int32 × St) := bnd (M_works N σ0) (fun σ11 => if (σ11.1 10) ≤ 0 then M_bar_17 N N (-1) 0 σ11 else some ((-1), σ11))
abbrev rm_M_bar : Room := { frames := 5, cells := 0, slots := 0, locals := 115 }
set_option maxHeartbeats 4000000 in
set_option maxRecDepth 100000 in
theorem k_M_bar (l : Launch) (ad : Nat → Nat) (cI cJ cZ : ClassId) {N : Nat}  {σ0 : St} {r : Int32} {τ : St} (hf : M_bar N σ0 = some (r, τ)) : CtI l yX8_bar (gws (.code yX8_bar cX8_bar 5 (some .int))) (rm_M_bar) (ty3 cI cJ cZ) (mw ad cI cZ) [.ref (ad 0)] σ0 r τ := by
  refine CtI.of (by decide) (mw_ok ad cI cZ) (Nat.le_of_ble_eq_true rfl) ?_
  generalize hav : ([.ref (ad 0)] : List Value) = av
  intro p e s m below meth c D A hC ls hl hP hS
  obtain ⟨hx, hb, hr, hlocks, hml, hown, hts, hK, hN, hD, hA⟩ := id hC
  rw [← hav] at hl
  have hl : lv_has ls 5 [(0, .ref (ad 0))] := hl
  unfold M_bar at hf
  have hw_28 : ∀ (k_65 : Int32 → Int32 → Int32 → St → Option (Int32 × St)) (hk_65 : ∀ (x1 : Int32) (x2 : Int32) (x3 : Int32) (σ : St) (H : Heap) (locs : List Loc) (ls : Array Slot), va_P D vwCl ((mw ad cI cZ) σ) H → va_S A s.heap H locs → lv_has ls 5 [(0, .ref (ad 0)), (1, .int x1), (2, .int x2), (3, .int x3)] → k_65 x1 x2 x3 σ = some (r, τ) → W p l e (rm_M_bar) s m av.toArray below meth c H locs 0 0 (QI below av.toArray s D A (mw ad cI cZ) r τ) (F0 m 65 ls [])), ∀ (n : Nat), ∀ (x1 : Int32) (x2 : Int32) (x3 : Int32) (x4 : Int32) (σ : St) (H : Heap) (locs : List Loc) (ls : Array Slot), va_P D vwCl ((mw ad cI cZ) σ) H → va_S A s.heap H locs → lv_has ls 5 [(0, .ref (ad 0)), (1, .int x1), (2, .int x2), (3, .int x3), (4, .int x4)] → M_bar_28 N k_65 n x1 x2 x3 x4 σ = some (r, τ) → W p l e (rm_M_bar) s m av.toArray below meth c H locs 0 0 (QI below av.toArray s D A (mw ad cI cZ) r τ) (F0 m 28 ls []) := by
    intro k_65 hk_65
    intro n
    induction n with
    | zero =>
      intro x1 x2 x3 x4 σ H locs ls hP hS hl hf
      cases hf
    | succ n ih =>
      intro x1 x2 x3 x4 σ H locs ls hP hS hl hf
      rw [M_bar_28_s] at hf
      refine lv_iload hx hb dX8_bar_28 (lv_at hl 4 rfl) ?_
      refine lv_aload_n hx hb dX8_bar_30 rfl (lv_at hl 0 rfl) ?_
      refine mg_0_19 hC hP tw_738 dX8_bar_31 ?_
      refine lv_icmp_ge (tgt := 65) hx hb dX8_bar_34 (by decide) (fun c1 => ?_) (fun c1 => ?_)
      · rw [if_pos c1] at hf
        exact hk_65 x1 x2 x3 σ H locs ls hP hS (lv_sub hl [0, 1, 2, 3] rfl) hf
      rw [if_neg c1] at hf
      refine lv_iload_n hx hb dX8_bar_37 rfl (lv_at hl 3 rfl) ?_
      refine lv_if_ne (tgt := 53) hx hb dX8_bar_38 (by decide) (fun c2 => ?_) (fun c2 => ?_)
      · rw [if_neg c2] at hf
        refine lv_iconst (v := 1) hx hb dX8_bar_53 (by decide) ?_
        refine lv_goto (tgt := 58) hx hb dX8_bar_54 (by decide) ?_
        refine lv_istore_n (lv' := [(3, .int 1), (0, .ref (ad 0)), (1, .int x1), (2, .int x2), (4, .int x4)]) hx hb dX8_bar_58 rfl hl (by decide) rfl (fun ls hl => ?_)
        refine lv_iinc (v := (x4 + 1)) (lv' := [(4, .int (x4 + 1)), (3, .int 1), (0, .ref (ad 0)), (1, .int x1), (2, .int x2)]) hx hb dX8_bar_59 hl (k := 4) rfl rfl (by decide) rfl (fun ls hl => ?_)
        refine lv_goto (tgt := 28) hx hb dX8_bar_62 (by decide) ?_
        exact ih x1 x2 1 (x4 + 1) σ H locs ls hP hS (lv_sub hl [2, 3, 4, 1, 0] rfl) hf
      rw [if_pos c2] at hf
      refine lv_aload_n hx hb dX8_bar_41 rfl (lv_at hl 0 rfl) ?_
      refine mg_0_21 hC hP tw_740 dX8_bar_42 ?_
      refine lv_iload hx hb dX8_bar_45 (lv_at hl 4 rfl) ?_
      obtain ⟨g3, hf⟩ := grd_some hf
      refine ml_11 hC hP g3 dX8_bar_47 ?_
      refine lv_iload_n hx hb dX8_bar_48 rfl (lv_at hl 2 rfl) ?_
      refine lv_iand hx hb dX8_bar_49 ?_
      refine lv_if_ne (tgt := 57) hx hb dX8_bar_50 (by decide) (fun c4 => ?_) (fun c4 => ?_)
      · rw [if_neg c4] at hf
        refine lv_iconst (v := 0) hx hb dX8_bar_57 (by decide) ?_
        refine lv_istore_n (lv' := [(3, .int 0), (0, .ref (ad 0)), (1, .int x1), (2, .int x2), (4, .int x4)]) hx hb dX8_bar_58 rfl hl (by decide) rfl (fun ls hl => ?_)
        refine lv_iinc (v := (x4 + 1)) (lv' := [(4, .int (x4 + 1)), (3, .int 0), (0, .ref (ad 0)), (1, .int x1), (2, .int x2)]) hx hb dX8_bar_59 hl (k := 4) rfl rfl (by decide) rfl (fun ls hl => ?_)
        refine lv_goto (tgt := 28) hx hb dX8_bar_62 (by decide) ?_
        exact ih x1 x2 0 (x4 + 1) σ H locs ls hP hS (lv_sub hl [2, 3, 4, 1, 0] rfl) hf
      rw [if_pos c4] at hf
      refine lv_iconst (v := 1) hx hb dX8_bar_53 (by decide) ?_
      refine lv_goto (tgt := 58) hx hb dX8_bar_54 (by decide) ?_
      refine lv_istore_n (lv' := [(3, .int 1), (0, .ref (ad 0)), (1, .int x1), (2, .int x2), (4, .int x4)]) hx hb dX8_bar_58 rfl hl (by decide) rfl (fun ls hl => ?_)
      refine lv_iinc (v := (x4 + 1)) (lv' := [(4, .int (x4 + 1)), (3, .int 1), (0, .ref (ad 0)), (1, .int x1), (2, .int x2)]) hx hb dX8_bar_59 hl (k := 4) rfl rfl (by decide) rfl (fun ls hl => ?_)
      refine lv_goto (tgt := 28) hx hb dX8_bar_62 (by decide) ?_
      exact ih x1 x2 1 (x4 + 1) σ H locs ls hP hS (lv_sub hl [2, 3, 4, 1, 0] rfl) hf
  have hw_65 : ∀ (k_17 : Int32 → Int32 → St → Option (Int32 × St)) (hk_17 : ∀ (x1 : Int32) (x2 : Int32) (σ : St) (H : Heap) (locs : List Loc) (ls : Array Slot), va_P D vwCl ((mw ad cI cZ) σ) H → va_S A s.heap H locs → lv_has ls 5 [(0, .ref (ad 0)), (1, .int x1), (2, .int x2)] → k_17 x1 x2 σ = some (r, τ) → W p l e (rm_M_bar) s m av.toArray below meth c H locs 0 0 (QI below av.toArray s D A (mw ad cI cZ) r τ) (F0 m 17 ls [])), ∀ (x1 : Int32) (x2 : Int32) (x3 : Int32) (σ : St) (H : Heap) (locs : List Loc) (ls : Array Slot), va_P D vwCl ((mw ad cI cZ) σ) H → va_S A s.heap H locs → lv_has ls 5 [(0, .ref (ad 0)), (1, .int x1), (2, .int x2), (3, .int x3)] → M_bar_65 N k_17 x1 x2 x3 σ = some (r, τ) → W p l e (rm_M_bar) s m av.toArray below meth c H locs 0 0 (QI below av.toArray s D A (mw ad cI cZ) r τ) (F0 m 65 ls []) := by
    intro k_17 hk_17 x1 x2 x3 σ H locs ls hP hS hl hf
    unfold M_bar_65 at hf
    refine lv_iload_n hx hb dX8_bar_65 rfl (lv_at hl 3 rfl) ?_
    refine lv_if_ne (tgt := 87) hx hb dX8_bar_66 (by decide) (fun c5 => ?_) (fun c5 => ?_)
    · rw [if_neg c5] at hf
      refine lv_iinc (v := (x2 + 1)) (lv' := [(2, .int (x2 + 1)), (0, .ref (ad 0)), (1, .int x1), (3, .int x3)]) hx hb dX8_bar_87 hl (k := 2) rfl rfl (by decide) rfl (fun ls hl => ?_)
      refine lv_goto (tgt := 17) hx hb dX8_bar_90 (by decide) ?_
      exact hk_17 x1 (x2 + 1) σ H locs ls hP hS (lv_sub hl [1, 2, 0] rfl) hf
    rw [if_pos c5] at hf
    refine lv_iload_n hx hb dX8_bar_69 rfl (lv_at hl 1 rfl) ?_
    refine lv_iconst (v := (-1)) hx hb dX8_bar_70 (by decide) ?_
    refine lv_icmp_eq (tgt := 85) hx hb dX8_bar_71 (by decide) (fun c6 => ?_) (fun c6 => ?_)
    · rw [if_pos c6] at hf
      refine lv_iload_n hx hb dX8_bar_85 rfl (lv_at hl 2 rfl) ?_
      refine lv_istore_n (lv' := [(1, .int x2), (0, .ref (ad 0)), (2, .int x2), (3, .int x3)]) hx hb dX8_bar_86 rfl hl (by decide) rfl (fun ls hl => ?_)
      refine lv_iinc (v := (x2 + 1)) (lv' := [(2, .int (x2 + 1)), (1, .int x2), (0, .ref (ad 0)), (3, .int x3)]) hx hb dX8_bar_87 hl (k := 2) rfl rfl (by decide) rfl (fun ls hl => ?_)
      refine lv_goto (tgt := 17) hx hb dX8_bar_90 (by decide) ?_
      exact hk_17 x2 (x2 + 1) σ H locs ls hP hS (lv_sub hl [2, 1, 0] rfl) hf
    rw [if_neg c6] at hf
    refine lv_iload_n hx hb dX8_bar_74 rfl (lv_at hl 2 rfl) ?_
    obtain ⟨y7, hcy7, hf⟩ := bnd_some hf
    refine cSi (As := [.int x2]) (rest := []) hC (k_M_sizeOf l (mw ad cI cZ) (mw_ok ad cI cZ) (ty3 cI cJ cZ) _ hcy7) yy_X8_sizeOf tw_878 rfl rfl ⟨by decide, by decide⟩ hP hS rfl hl.1 rfl (Nat.le_of_ble_eq_true rfl) dX8_bar_75 (fun H locs hP hS => ?_)
    refine lv_iload_n hx hb dX8_bar_78 rfl (lv_at hl 1 rfl) ?_
    obtain ⟨y8, hcy8, hf⟩ := bnd_some hf
    refine cSi (As := [.int x1]) (rest := [.int y7]) hC (k_M_sizeOf l (mw ad cI cZ) (mw_ok ad cI cZ) (ty3 cI cJ cZ) _ hcy8) yy_X8_sizeOf tw_878 rfl rfl ⟨by decide, by decide⟩ hP hS rfl hl.1 rfl (Nat.le_of_ble_eq_true rfl) dX8_bar_79 (fun H locs hP hS => ?_)
    refine lv_icmp_ge (tgt := 87) hx hb dX8_bar_82 (by decide) (fun c9 => ?_) (fun c9 => ?_)
    · rw [if_pos c9] at hf
      refine lv_iinc (v := (x2 + 1)) (lv' := [(2, .int (x2 + 1)), (0, .ref (ad 0)), (1, .int x1), (3, .int x3)]) hx hb dX8_bar_87 hl (k := 2) rfl rfl (by decide) rfl (fun ls hl => ?_)
      refine lv_goto (tgt := 17) hx hb dX8_bar_90 (by decide) ?_
      exact hk_17 x1 (x2 + 1) σ H locs ls hP hS (lv_sub hl [1, 2, 0] rfl) hf
    rw [if_neg c9] at hf
    refine lv_iload_n hx hb dX8_bar_85 rfl (lv_at hl 2 rfl) ?_
    refine lv_istore_n (lv' := [(1, .int x2), (0, .ref (ad 0)), (2, .int x2), (3, .int x3)]) hx hb dX8_bar_86 rfl hl (by decide) rfl (fun ls hl => ?_)
    refine lv_iinc (v := (x2 + 1)) (lv' := [(2, .int (x2 + 1)), (1, .int x2), (0, .ref (ad 0)), (3, .int x3)]) hx hb dX8_bar_87 hl (k := 2) rfl rfl (by decide) rfl (fun ls hl => ?_)
    refine lv_goto (tgt := 17) hx hb dX8_bar_90 (by decide) ?_
    exact hk_17 x2 (x2 + 1) σ H locs ls hP hS (lv_sub hl [2, 1, 0] rfl) hf
  have hw_17 : ∀ (n : Nat), ∀ (x1 : Int32) (x2 : Int32) (σ : St) (H : Heap) (locs : List Loc) (ls : Array Slot), va_P D vwCl ((mw ad cI cZ) σ) H → va_S A s.heap H locs → lv_has ls 5 [(0, .ref (ad 0)), (1, .int x1), (2, .int x2)] → M_bar_17 N n x1 x2 σ = some (r, τ) → W p l e (rm_M_bar) s m av.toArray below meth c H locs 0 0 (QI below av.toArray s D A (mw ad cI cZ) r τ) (F0 m 17 ls []) := by
    intro n
    induction n with
    | zero =>
      intro x1 x2 σ H locs ls hP hS hl hf
      cases hf
    | succ n ih =>
      intro x1 x2 σ H locs ls hP hS hl hf
      rw [M_bar_17_s] at hf
      refine lv_iload_n hx hb dX8_bar_17 rfl (lv_at hl 2 rfl) ?_
      refine lv_bipush (v := 32) hx hb dX8_bar_18 (by decide) ?_
      refine lv_icmp_ge (tgt := 93) hx hb dX8_bar_20 (by decide) (fun c10 => ?_) (fun c10 => ?_)
      · rw [if_pos c10] at hf
        refine lv_iload_n hx hb dX8_bar_93 rfl (lv_at hl 1 rfl) ?_
        obtain ⟨h1, h2⟩ := ret2 hf
        exact retI hx hb hr hlocks hP hS h1 h2 dX8_bar_94
      rw [if_neg c10] at hf
      refine lv_iconst (v := 0) hx hb dX8_bar_23 (by decide) ?_
      refine lv_istore_n (lv' := [(3, .int 0), (0, .ref (ad 0)), (1, .int x1), (2, .int x2)]) hx hb dX8_bar_24 rfl hl (by decide) rfl (fun ls hl => ?_)
      refine lv_iconst (v := 0) hx hb dX8_bar_25 (by decide) ?_
      refine lv_istore (lv' := [(4, .int 0), (3, .int 0), (0, .ref (ad 0)), (1, .int x1), (2, .int x2)]) hx hb dX8_bar_26 hl (by decide) rfl (fun ls hl => ?_)
      exact hw_28 (M_bar_65 N (M_bar_17 N n)) (hw_65 (M_bar_17 N n) ih) N x1 x2 0 0 σ H locs ls hP hS (lv_sub hl [2, 3, 4, 1, 0] rfl) hf
  obtain ⟨H, hH⟩ : ∃ z, z = s.heap := ⟨_, rfl⟩
  obtain ⟨locs, hlocs⟩ : ∃ z : List Loc, z = [] := ⟨_, rfl⟩
  rw [← hH] at hP
  have hS : va_S A s.heap H locs := by rw [hH, hlocs]; exact va_S.rf
  suffices hgoal : W p l e _ s m _ below meth c H locs 0 0 _ _ by rw [hH, hlocs] at hgoal; exact hgoal
  refine lv_aload_n hx hb dX8_bar_0 rfl (lv_at hl 0 rfl) ?_
  obtain ⟨σ11, hcσ11, hf⟩ := bnd_some hf
  refine cVv (As := []) (rest := []) hC (k_M_works l ad cI cJ cZ hcσ11) yy_X8_works tw_912 rfl rfl ⟨by decide, by decide⟩ hP hS (q0 := 0) (ci := 8) rfl rfl (mwa_0 ..) rfl hl.1 rfl (Nat.le_of_ble_eq_true rfl) dX8_bar_1 (fun H locs hP hS => ?_)
  refine lv_aload_n hx hb dX8_bar_4 rfl (lv_at hl 0 rfl) ?_
  refine mg_0_20 hC hP tw_739 dX8_bar_5 ?_
  refine lv_if_le (tgt := 13) hx hb dX8_bar_8 (by decide) (fun c12 => ?_) (fun c12 => ?_)
  · rw [if_pos c12] at hf
    refine lv_iconst (v := (-1)) hx hb dX8_bar_13 (by decide) ?_
    refine lv_istore_n (lv' := [(1, .int (-1)), (0, .ref (ad 0))]) hx hb dX8_bar_14 rfl hl (by decide) rfl (fun ls hl => ?_)
    refine lv_iconst (v := 0) hx hb dX8_bar_15 (by decide) ?_
    refine lv_istore_n (lv' := [(2, .int 0), (1, .int (-1)), (0, .ref (ad 0))]) hx hb dX8_bar_16 rfl hl (by decide) rfl (fun ls hl => ?_)
    exact hw_17 N (-1) 0 σ11 H locs ls hP hS (lv_sub hl [2, 1, 0] rfl) hf
  rw [if_neg c12] at hf
  refine lv_iconst (v := (-1)) hx hb dX8_bar_11 (by decide) ?_
  obtain ⟨h1, h2⟩ := ret2 hf
  exact retI hx hb hr hlocks hP hS h1 h2 dX8_bar_12
theorem dX8_front_0 : decode cX8_front 0 = .ok (.aload_n 0, 1) := by decide +kernel
theorem dX8_front_1 : decode cX8_front 1 = .ok (.invokevirtual 148, 3) := by decide +kernel
theorem dX8_front_4 : decode cX8_front 4 = .ok (.iload_n 1, 1) := by decide +kernel
theorem dX8_front_5 : decode cX8_front 5 = .ok (.ifCond .lt 12, 3) := by decide +kernel
theorem dX8_front_8 : decode cX8_front 8 = .ok (.iload_n 2, 1) := by decide +kernel
theorem dX8_front_9 : decode cX8_front 9 = .ok (.iconst 0, 1) := by decide +kernel
theorem dX8_front_10 : decode cX8_front 10 = .ok (.iconst 2, 1) := by decide +kernel
theorem dX8_front_11 : decode cX8_front 11 = .ok (.invokestatic 100, 3) := by decide +kernel
theorem dX8_front_14 : decode cX8_front 14 = .ok (.ifCond .ne 5, 3) := by decide +kernel
theorem dX8_front_17 : decode cX8_front 17 = .ok (.iconst (-1), 1) := by decide +kernel
theorem dX8_front_18 : decode cX8_front 18 = .ok (.ireturn, 1) := by decide +kernel
theorem dX8_front_19 : decode cX8_front 19 = .ok (.iconst (-1), 1) := by decide +kernel
theorem dX8_front_20 : decode cX8_front 20 = .ok (.istore_n 3, 1) := by decide +kernel
theorem dX8_front_21 : decode cX8_front 21 = .ok (.iconst 0, 1) := by decide +kernel
theorem dX8_front_22 : decode cX8_front 22 = .ok (.istore 4, 2) := by decide +kernel
theorem dX8_front_24 : decode cX8_front 24 = .ok (.iload 4, 2) := by decide +kernel
theorem dX8_front_26 : decode cX8_front 26 = .ok (.iload_n 1, 1) := by decide +kernel
theorem dX8_front_27 : decode cX8_front 27 = .ok (.if_icmp .gt 126, 3) := by decide +kernel
theorem dX8_front_30 : decode cX8_front 30 = .ok (.iconst (-1), 1) := by decide +kernel
theorem dX8_front_31 : decode cX8_front 31 = .ok (.istore 5, 2) := by decide +kernel
theorem dX8_front_33 : decode cX8_front 33 = .ok (.iconst 0, 1) := by decide +kernel
theorem dX8_front_34 : decode cX8_front 34 = .ok (.istore 6, 2) := by decide +kernel
theorem dX8_front_36 : decode cX8_front 36 = .ok (.iload 6, 2) := by decide +kernel
theorem dX8_front_38 : decode cX8_front 38 = .ok (.aload_n 0, 1) := by decide +kernel
theorem dX8_front_39 : decode cX8_front 39 = .ok (.getfield 142, 3) := by decide +kernel
theorem dX8_front_42 : decode cX8_front 42 = .ok (.if_icmp .ge 94, 3) := by decide +kernel
theorem dX8_front_45 : decode cX8_front 45 = .ok (.iload_n 3, 1) := by decide +kernel
theorem dX8_front_46 : decode cX8_front 46 = .ok (.iconst (-1), 1) := by decide +kernel
theorem dX8_front_47 : decode cX8_front 47 = .ok (.if_icmp .eq 22, 3) := by decide +kernel
theorem dX8_front_50 : decode cX8_front 50 = .ok (.aload_n 0, 1) := by decide +kernel
theorem dX8_front_51 : decode cX8_front 51 = .ok (.getfield 66, 3) := by decide +kernel
theorem dX8_front_54 : decode cX8_front 54 = .ok (.iload 6, 2) := by decide +kernel
theorem dX8_front_56 : decode cX8_front 56 = .ok (.iaload, 1) := by decide +kernel
theorem dX8_front_57 : decode cX8_front 57 = .ok (.aload_n 0, 1) := by decide +kernel
theorem dX8_front_58 : decode cX8_front 58 = .ok (.getfield 66, 3) := by decide +kernel
theorem dX8_front_61 : decode cX8_front 61 = .ok (.iload_n 3, 1) := by decide +kernel
theorem dX8_front_62 : decode cX8_front 62 = .ok (.iaload, 1) := by decide +kernel
theorem dX8_front_63 : decode cX8_front 63 = .ok (.if_icmp .lt 6, 3) := by decide +kernel
theorem dX8_front_66 : decode cX8_front 66 = .ok (.goto 64, 3) := by decide +kernel
theorem dX8_front_69 : decode cX8_front 69 = .ok (.iload 5, 2) := by decide +kernel
theorem dX8_front_71 : decode cX8_front 71 = .ok (.iconst (-1), 1) := by decide +kernel
theorem dX8_front_72 : decode cX8_front 72 = .ok (.if_icmp .eq 54, 3) := by decide +kernel
theorem dX8_front_75 : decode cX8_front 75 = .ok (.aload_n 0, 1) := by decide +kernel
theorem dX8_front_76 : decode cX8_front 76 = .ok (.getfield 63, 3) := by decide +kernel
theorem dX8_front_79 : decode cX8_front 79 = .ok (.iload 6, 2) := by decide +kernel
theorem dX8_front_81 : decode cX8_front 81 = .ok (.iaload, 1) := by decide +kernel
theorem dX8_front_82 : decode cX8_front 82 = .ok (.aload_n 0, 1) := by decide +kernel
theorem dX8_front_83 : decode cX8_front 83 = .ok (.getfield 63, 3) := by decide +kernel
theorem dX8_front_86 : decode cX8_front 86 = .ok (.iload 5, 2) := by decide +kernel
theorem dX8_front_88 : decode cX8_front 88 = .ok (.iaload, 1) := by decide +kernel
theorem dX8_front_89 : decode cX8_front 89 = .ok (.if_icmp .lt 37, 3) := by decide +kernel
theorem dX8_front_92 : decode cX8_front 92 = .ok (.aload_n 0, 1) := by decide +kernel
theorem dX8_front_93 : decode cX8_front 93 = .ok (.getfield 63, 3) := by decide +kernel
theorem dX8_front_96 : decode cX8_front 96 = .ok (.iload 6, 2) := by decide +kernel
theorem dX8_front_98 : decode cX8_front 98 = .ok (.iaload, 1) := by decide +kernel
theorem dX8_front_99 : decode cX8_front 99 = .ok (.aload_n 0, 1) := by decide +kernel
theorem dX8_front_100 : decode cX8_front 100 = .ok (.getfield 63, 3) := by decide +kernel
theorem dX8_front_103 : decode cX8_front 103 = .ok (.iload 5, 2) := by decide +kernel
theorem dX8_front_105 : decode cX8_front 105 = .ok (.iaload, 1) := by decide +kernel
theorem dX8_front_106 : decode cX8_front 106 = .ok (.if_icmp .ne 24, 3) := by decide +kernel
theorem dX8_front_109 : decode cX8_front 109 = .ok (.aload_n 0, 1) := by decide +kernel
theorem dX8_front_110 : decode cX8_front 110 = .ok (.getfield 66, 3) := by decide +kernel
theorem dX8_front_113 : decode cX8_front 113 = .ok (.iload 6, 2) := by decide +kernel
theorem dX8_front_115 : decode cX8_front 115 = .ok (.iaload, 1) := by decide +kernel
theorem dX8_front_116 : decode cX8_front 116 = .ok (.aload_n 0, 1) := by decide +kernel
theorem dX8_front_117 : decode cX8_front 117 = .ok (.getfield 66, 3) := by decide +kernel
theorem dX8_front_120 : decode cX8_front 120 = .ok (.iload 5, 2) := by decide +kernel
theorem dX8_front_122 : decode cX8_front 122 = .ok (.iaload, 1) := by decide +kernel
theorem dX8_front_123 : decode cX8_front 123 = .ok (.if_icmp .ge 7, 3) := by decide +kernel
theorem dX8_front_126 : decode cX8_front 126 = .ok (.iload 6, 2) := by decide +kernel
theorem dX8_front_128 : decode cX8_front 128 = .ok (.istore 5, 2) := by decide +kernel
theorem dX8_front_130 : decode cX8_front 130 = .ok (.iinc 6 1, 3) := by decide +kernel
theorem dX8_front_133 : decode cX8_front 133 = .ok (.goto (-97), 3) := by decide +kernel
theorem dX8_front_136 : decode cX8_front 136 = .ok (.iload 5, 2) := by decide +kernel
theorem dX8_front_138 : decode cX8_front 138 = .ok (.iconst (-1), 1) := by decide +kernel
theorem dX8_front_139 : decode cX8_front 139 = .ok (.if_icmp .ne 5, 3) := by decide +kernel
theorem dX8_front_142 : decode cX8_front 142 = .ok (.iconst (-1), 1) := by decide +kernel
theorem dX8_front_143 : decode cX8_front 143 = .ok (.ireturn, 1) := by decide +kernel
theorem dX8_front_144 : decode cX8_front 144 = .ok (.iload 5, 2) := by decide +kernel
theorem dX8_front_146 : decode cX8_front 146 = .ok (.istore_n 3, 1) := by decide +kernel
theorem dX8_front_147 : decode cX8_front 147 = .ok (.iinc 4 1, 3) := by decide +kernel
theorem dX8_front_150 : decode cX8_front 150 = .ok (.goto (-126), 3) := by decide +kernel
theorem dX8_front_153 : decode cX8_front 153 = .ok (.iload_n 2, 1) := by decide +kernel
theorem dX8_front_154 : decode cX8_front 154 = .ok (.ifCond .ne 12, 3) := by decide +kernel
theorem dX8_front_157 : decode cX8_front 157 = .ok (.aload_n 0, 1) := by decide +kernel
theorem dX8_front_158 : decode cX8_front 158 = .ok (.getfield 60, 3) := by decide +kernel
theorem dX8_front_161 : decode cX8_front 161 = .ok (.iload_n 3, 1) := by decide +kernel
theorem dX8_front_162 : decode cX8_front 162 = .ok (.iaload, 1) := by decide +kernel
theorem dX8_front_163 : decode cX8_front 163 = .ok (.goto 23, 3) := by decide +kernel
theorem dX8_front_166 : decode cX8_front 166 = .ok (.iload_n 2, 1) := by decide +kernel
theorem dX8_front_167 : decode cX8_front 167 = .ok (.iconst 1, 1) := by decide +kernel
theorem dX8_front_168 : decode cX8_front 168 = .ok (.if_icmp .ne 12, 3) := by decide +kernel
theorem dX8_front_171 : decode cX8_front 171 = .ok (.aload_n 0, 1) := by decide +kernel
theorem dX8_front_172 : decode cX8_front 172 = .ok (.getfield 63, 3) := by decide +kernel
theorem dX8_front_175 : decode cX8_front 175 = .ok (.iload_n 3, 1) := by decide +kernel
theorem dX8_front_176 : decode cX8_front 176 = .ok (.iaload, 1) := by decide +kernel
theorem dX8_front_177 : decode cX8_front 177 = .ok (.goto 9, 3) := by decide +kernel
theorem dX8_front_180 : decode cX8_front 180 = .ok (.aload_n 0, 1) := by decide +kernel
theorem dX8_front_181 : decode cX8_front 181 = .ok (.getfield 66, 3) := by decide +kernel
theorem dX8_front_184 : decode cX8_front 184 = .ok (.iload_n 3, 1) := by decide +kernel
theorem dX8_front_185 : decode cX8_front 185 = .ok (.iaload, 1) := by decide +kernel
theorem dX8_front_186 : decode cX8_front 186 = .ok (.ireturn, 1) := by decide +kernel
def M_front_69 (N : Nat) (k_36 : Int32 → Int32 → Int32 → Int32 → Int32 → Int32 → St → Option (Int32 × St)) (x1 : Int32) (x2 : Int32) (x3 : Int32) (x4 : Int32) (x5 : Int32) (x6 : Int32) (σ : St) : Option (Int32 × St) := if x5 = (-1) then k_36 x1 x2 x3 x4 x6 (x6 + 1) σ else grd (inb x6 3432) (grd (inb x5 3432) (if (σ.2.1 12 (x6).toNatClampNeg) < (σ.2.1 12 (x5).toNatClampNeg) then k_36 x1 x2 x3 x4 x6 (x6 + 1) σ else grd (inb x6 3432) (grd (inb x5 3432) (if (σ.2.1 12 (x6).toNatClampNeg) = (σ.2.1 12 (x5).toNatClampNeg) then grd (inb x6 3432) (grd (inb x5 3432) (if (σ.2.1 13 (x5).toNatClampNeg) ≤ (σ.2.1 13 (x6).toNatClampNeg) then k_36 x1 x2 x3 x4 x5 (x6 + 1) σ else k_36 x1 x2 x3 x4 x6 (x6 + 1) σ)) else k_36 x1 x2 x3 x4 x5 (x6 + 1) σ))))
def M_front_36 (N : Nat) (k_136 : Int32 → Int32 → Int32 → Int32 → St → Option (Int32 × St)) : Nat → Int32 → Int32 → Int32 → Int32 → Int32 → Int32 → St → Option (Int32 × St)
  | 0, _, _, _, _, _, _, _ => none
  | n + 1, x1, x2, x3, x4, x5, x6, σ => if (σ.1 10) ≤ x6 then k_136 x1 x2 x4 x5 σ else if x3 = (-1) then M_front_69 N (M_front_36 N k_136 n) x1 x2 x3 x4 x5 x6 σ else grd (inb x6 3432) (grd (inb x3 3432) (if (σ.2.1 13 (x6).toNatClampNeg) < (σ.2.1 13 (x3).toNatClampNeg) then M_front_69 N (M_front_36 N k_136 n) x1 x2 x3 x4 x5 x6 σ else M_front_36 N k_136 n x1 x2 x3 x4 x5 (x6 + 1) σ))
theorem M_front_36_s (N : Nat) (k_136 : Int32 → Int32 → Int32 → Int32 → St → Option (Int32 × St)) (n : Nat) (x1 : Int32) (x2 : Int32) (x3 : Int32) (x4 : Int32) (x5 : Int32) (x6 : Int32) (σ : St) : M_front_36 N k_136 (n + 1) x1 x2 x3 x4 x5 x6 σ = if (σ.1 10) ≤ x6 then k_136 x1 x2 x4 x5 σ else if x3 = (-1) then M_front_69 N (M_front_36 N k_136 n) x1 x2 x3 x4 x5 x6 σ else grd (inb x6 3432) (grd (inb x3 3432) (if (σ.2.1 13 (x6).toNatClampNeg) < (σ.2.1 13 (x3).toNatClampNeg) then M_front_69 N (M_front_36 N k_136 n) x1 x2 x3 x4 x5 x6 σ else M_front_36 N k_136 n x1 x2 x3 x4 x5 (x6 + 1) σ)) := rfl
def M_front_136 (N : Nat) (k_24 : Int32 → Int32 → Int32 → Int32 → St → Option (Int32 × St)) (x1 : Int32) (x2 : Int32) (x4 : Int32) (x5 : Int32) (σ : St) : Option (Int32 × St) := if x5 = (-1) then some ((-1), σ) else k_24 x1 x2 x5 (x4 + 1) σ
def M_front_24 (N : Nat) (k_153 : Int32 → Int32 → St → Option (Int32 × St)) : Nat → Int32 → Int32 → Int32 → Int32 → St → Option (Int32 × St)
  | 0, _, _, _, _, _ => none
  | n + 1, x1, x2, x3, x4, σ => if x1 < x4 then k_153 x2 x3 σ else M_front_36 N (M_front_136 N (M_front_24 N k_153 n)) N x1 x2 x3 x4 (-1) 0 σ
theorem M_front_24_s (N : Nat) (k_153 : Int32 → Int32 → St → Option (Int32 × St)) (n : Nat) (x1 : Int32) (x2 : Int32) (x3 : Int32) (x4 : Int32) (σ : St) : M_front_24 N k_153 (n + 1) x1 x2 x3 x4 σ = if x1 < x4 then k_153 x2 x3 σ else M_front_36 N (M_front_136 N (M_front_24 N k_153 n)) N x1 x2 x3 x4 (-1) 0 σ := rfl
def M_front_153 (N : Nat) (x2 : Int32) (x3 : Int32) (σ : St) : Option (Int32 × St) := if x2 = 0 then grd (inb x3 3432) (some ((σ.2.1 11 (x3).toNatClampNeg), σ)) else if x2 = 1 then grd (inb x3 3432) (some ((σ.2.1 12 (x3).toNatClampNeg), σ)) else grd (inb x3 3432) (some ((σ.2.1 13 (x3).toNatClampNeg), σ))
def M_front (N : Nat) (x1 : Int32) (x2 : Int32) (σ0 : St) : Option (Int32 × St) := bnd (M_works N σ0) (fun σ23 => if x1 < 0 then some ((-1), σ23) else if (M_lies x2 0 2) = 0 then some ((-1), σ23) else M_front_24 N (M_front_153 N) N x1 x2 (-1) 0 σ23)
abbrev rm_M_front : Room := { frames := 5, cells := 0, slots := 0, locals := 115 }
set_option maxHeartbeats 4000000 in
set_option maxRecDepth 100000 in
theorem k_M_front (l : Launch) (ad : Nat → Nat) (cI cJ cZ : ClassId) {N : Nat} {x1 : Int32} {x2 : Int32} {σ0 : St} {r : Int32} {τ : St} (hf : M_front N x1 x2 σ0 = some (r, τ)) : CtI l yX8_front (gws (.code yX8_front cX8_front 7 (some .int))) (rm_M_front) (ty3 cI cJ cZ) (mw ad cI cZ) [.ref (ad 0), .int x1, .int x2] σ0 r τ := by
  refine CtI.of (by decide) (mw_ok ad cI cZ) (Nat.le_of_ble_eq_true rfl) ?_
  generalize hav : ([.ref (ad 0), .int x1, .int x2] : List Value) = av
  intro p e s m below meth c D A hC ls hl hP hS
  obtain ⟨hx, hb, hr, hlocks, hml, hown, hts, hK, hN, hD, hA⟩ := id hC
  rw [← hav] at hl
  have hl : lv_has ls 7 [(0, .ref (ad 0)), (1, .int x1), (2, .int x2)] := hl
  unfold M_front at hf
  have hw_69 : ∀ (k_36 : Int32 → Int32 → Int32 → Int32 → Int32 → Int32 → St → Option (Int32 × St)) (hk_36 : ∀ (x1 : Int32) (x2 : Int32) (x3 : Int32) (x4 : Int32) (x5 : Int32) (x6 : Int32) (σ : St) (H : Heap) (locs : List Loc) (ls : Array Slot), va_P D vwCl ((mw ad cI cZ) σ) H → va_S A s.heap H locs → lv_has ls 7 [(0, .ref (ad 0)), (1, .int x1), (2, .int x2), (3, .int x3), (4, .int x4), (5, .int x5), (6, .int x6)] → k_36 x1 x2 x3 x4 x5 x6 σ = some (r, τ) → W p l e (rm_M_front) s m av.toArray below meth c H locs 0 0 (QI below av.toArray s D A (mw ad cI cZ) r τ) (F0 m 36 ls [])), ∀ (x1 : Int32) (x2 : Int32) (x3 : Int32) (x4 : Int32) (x5 : Int32) (x6 : Int32) (σ : St) (H : Heap) (locs : List Loc) (ls : Array Slot), va_P D vwCl ((mw ad cI cZ) σ) H → va_S A s.heap H locs → lv_has ls 7 [(0, .ref (ad 0)), (1, .int x1), (2, .int x2), (3, .int x3), (4, .int x4), (5, .int x5), (6, .int x6)] → M_front_69 N k_36 x1 x2 x3 x4 x5 x6 σ = some (r, τ) → W p l e (rm_M_front) s m av.toArray below meth c H locs 0 0 (QI below av.toArray s D A (mw ad cI cZ) r τ) (F0 m 69 ls []) := by
    intro k_36 hk_36 x1 x2 x3 x4 x5 x6 σ H locs ls hP hS hl hf
    unfold M_front_69 at hf
    refine lv_iload hx hb dX8_front_69 (lv_at hl 5 rfl) ?_
    refine lv_iconst (v := (-1)) hx hb dX8_front_71 (by decide) ?_
    refine lv_icmp_eq (tgt := 126) hx hb dX8_front_72 (by decide) (fun c1 => ?_) (fun c1 => ?_)
    · rw [if_pos c1] at hf
      refine lv_iload hx hb dX8_front_126 (lv_at hl 6 rfl) ?_
      refine lv_istore (lv' := [(5, .int x6), (0, .ref (ad 0)), (1, .int x1), (2, .int x2), (3, .int x3), (4, .int x4), (6, .int x6)]) hx hb dX8_front_128 hl (by decide) rfl (fun ls hl => ?_)
      refine lv_iinc (v := (x6 + 1)) (lv' := [(6, .int (x6 + 1)), (5, .int x6), (0, .ref (ad 0)), (1, .int x1), (2, .int x2), (3, .int x3), (4, .int x4)]) hx hb dX8_front_130 hl (k := 6) rfl rfl (by decide) rfl (fun ls hl => ?_)
      refine lv_goto (tgt := 36) hx hb dX8_front_133 (by decide) ?_
      exact hk_36 x1 x2 x3 x4 x6 (x6 + 1) σ H locs ls hP hS (lv_sub hl [2, 3, 4, 5, 6, 1, 0] rfl) hf
    rw [if_neg c1] at hf
    refine lv_aload_n hx hb dX8_front_75 rfl (lv_at hl 0 rfl) ?_
    refine mg_0_23 hC hP tw_742 dX8_front_76 ?_
    refine lv_iload hx hb dX8_front_79 (lv_at hl 6 rfl) ?_
    obtain ⟨g2, hf⟩ := grd_some hf
    refine ml_13 hC hP g2 dX8_front_81 ?_
    refine lv_aload_n hx hb dX8_front_82 rfl (lv_at hl 0 rfl) ?_
    refine mg_0_23 hC hP tw_742 dX8_front_83 ?_
    refine lv_iload hx hb dX8_front_86 (lv_at hl 5 rfl) ?_
    obtain ⟨g3, hf⟩ := grd_some hf
    refine ml_13 hC hP g3 dX8_front_88 ?_
    refine lv_icmp_lt (tgt := 126) hx hb dX8_front_89 (by decide) (fun c4 => ?_) (fun c4 => ?_)
    · rw [if_pos c4] at hf
      refine lv_iload hx hb dX8_front_126 (lv_at hl 6 rfl) ?_
      refine lv_istore (lv' := [(5, .int x6), (0, .ref (ad 0)), (1, .int x1), (2, .int x2), (3, .int x3), (4, .int x4), (6, .int x6)]) hx hb dX8_front_128 hl (by decide) rfl (fun ls hl => ?_)
      refine lv_iinc (v := (x6 + 1)) (lv' := [(6, .int (x6 + 1)), (5, .int x6), (0, .ref (ad 0)), (1, .int x1), (2, .int x2), (3, .int x3), (4, .int x4)]) hx hb dX8_front_130 hl (k := 6) rfl rfl (by decide) rfl (fun ls hl => ?_)
      refine lv_goto (tgt := 36) hx hb dX8_front_133 (by decide) ?_
      exact hk_36 x1 x2 x3 x4 x6 (x6 + 1) σ H locs ls hP hS (lv_sub hl [2, 3, 4, 5, 6, 1, 0] rfl) hf
    rw [if_neg c4] at hf
    refine lv_aload_n hx hb dX8_front_92 rfl (lv_at hl 0 rfl) ?_
    refine mg_0_23 hC hP tw_742 dX8_front_93 ?_
    refine lv_iload hx hb dX8_front_96 (lv_at hl 6 rfl) ?_
    obtain ⟨g5, hf⟩ := grd_some hf
    refine ml_13 hC hP g5 dX8_front_98 ?_
    refine lv_aload_n hx hb dX8_front_99 rfl (lv_at hl 0 rfl) ?_
    refine mg_0_23 hC hP tw_742 dX8_front_100 ?_
    refine lv_iload hx hb dX8_front_103 (lv_at hl 5 rfl) ?_
    obtain ⟨g6, hf⟩ := grd_some hf
    refine ml_13 hC hP g6 dX8_front_105 ?_
    refine lv_icmp_ne (tgt := 130) hx hb dX8_front_106 (by decide) (fun c7 => ?_) (fun c7 => ?_)
    · rw [if_neg c7] at hf
      refine lv_iinc (v := (x6 + 1)) (lv' := [(6, .int (x6 + 1)), (0, .ref (ad 0)), (1, .int x1), (2, .int x2), (3, .int x3), (4, .int x4), (5, .int x5)]) hx hb dX8_front_130 hl (k := 6) rfl rfl (by decide) rfl (fun ls hl => ?_)
      refine lv_goto (tgt := 36) hx hb dX8_front_133 (by decide) ?_
      exact hk_36 x1 x2 x3 x4 x5 (x6 + 1) σ H locs ls hP hS (lv_sub hl [1, 2, 3, 4, 5, 6, 0] rfl) hf
    rw [if_pos c7] at hf
    refine lv_aload_n hx hb dX8_front_109 rfl (lv_at hl 0 rfl) ?_
    refine mg_0_24 hC hP tw_743 dX8_front_110 ?_
    refine lv_iload hx hb dX8_front_113 (lv_at hl 6 rfl) ?_
    obtain ⟨g8, hf⟩ := grd_some hf
    refine ml_14 hC hP g8 dX8_front_115 ?_
    refine lv_aload_n hx hb dX8_front_116 rfl (lv_at hl 0 rfl) ?_
    refine mg_0_24 hC hP tw_743 dX8_front_117 ?_
    refine lv_iload hx hb dX8_front_120 (lv_at hl 5 rfl) ?_
    obtain ⟨g9, hf⟩ := grd_some hf
    refine ml_14 hC hP g9 dX8_front_122 ?_
    refine lv_icmp_ge (tgt := 130) hx hb dX8_front_123 (by decide) (fun c10 => ?_) (fun c10 => ?_)
    · rw [if_pos c10] at hf
      refine lv_iinc (v := (x6 + 1)) (lv' := [(6, .int (x6 + 1)), (0, .ref (ad 0)), (1, .int x1), (2, .int x2), (3, .int x3), (4, .int x4), (5, .int x5)]) hx hb dX8_front_130 hl (k := 6) rfl rfl (by decide) rfl (fun ls hl => ?_)
      refine lv_goto (tgt := 36) hx hb dX8_front_133 (by decide) ?_
      exact hk_36 x1 x2 x3 x4 x5 (x6 + 1) σ H locs ls hP hS (lv_sub hl [1, 2, 3, 4, 5, 6, 0] rfl) hf
    rw [if_neg c10] at hf
    refine lv_iload hx hb dX8_front_126 (lv_at hl 6 rfl) ?_
    refine lv_istore (lv' := [(5, .int x6), (0, .ref (ad 0)), (1, .int x1), (2, .int x2), (3, .int x3), (4, .int x4), (6, .int x6)]) hx hb dX8_front_128 hl (by decide) rfl (fun ls hl => ?_)
    refine lv_iinc (v := (x6 + 1)) (lv' := [(6, .int (x6 + 1)), (5, .int x6), (0, .ref (ad 0)), (1, .int x1), (2, .int x2), (3, .int x3), (4, .int x4)]) hx hb dX8_front_130 hl (k := 6) rfl rfl (by decide) rfl (fun ls hl => ?_)
    refine lv_goto (tgt := 36) hx hb dX8_front_133 (by decide) ?_
    exact hk_36 x1 x2 x3 x4 x6 (x6 + 1) σ H locs ls hP hS (lv_sub hl [2, 3, 4, 5, 6, 1, 0] rfl) hf
  have hw_36 : ∀ (k_136 : Int32 → Int32 → Int32 → Int32 → St → Option (Int32 × St)) (hk_136 : ∀ (x1 : Int32) (x2 : Int32) (x4 : Int32) (x5 : Int32) (σ : St) (H : Heap) (locs : List Loc) (ls : Array Slot), va_P D vwCl ((mw ad cI cZ) σ) H → va_S A s.heap H locs → lv_has ls 7 [(0, .ref (ad 0)), (1, .int x1), (2, .int x2), (4, .int x4), (5, .int x5)] → k_136 x1 x2 x4 x5 σ = some (r, τ) → W p l e (rm_M_front) s m av.toArray below meth c H locs 0 0 (QI below av.toArray s D A (mw ad cI cZ) r τ) (F0 m 136 ls [])), ∀ (n : Nat), ∀ (x1 : Int32) (x2 : Int32) (x3 : Int32) (x4 : Int32) (x5 : Int32) (x6 : Int32) (σ : St) (H : Heap) (locs : List Loc) (ls : Array Slot), va_P D vwCl ((mw ad cI cZ) σ) H → va_S A s.heap H locs → lv_has ls 7 [(0, .ref (ad 0)), (1, .int x1), (2, .int x2), (3, .int x3), (4, .int x4), (5, .int x5), (6, .int x6)] → M_front_36 N k_136 n x1 x2 x3 x4 x5 x6 σ = some (r, τ) → W p l e (rm_M_front) s m av.toArray below meth c H locs 0 0 (QI below av.toArray s D A (mw ad cI cZ) r τ) (F0 m 36 ls []) := by
    intro k_136 hk_136
    intro n
    induction n with
    | zero =>
      intro x1 x2 x3 x4 x5 x6 σ H locs ls hP hS hl hf
      cases hf
    | succ n ih =>
      intro x1 x2 x3 x4 x5 x6 σ H locs ls hP hS hl hf
      rw [M_front_36_s] at hf
      refine lv_iload hx hb dX8_front_36 (lv_at hl 6 rfl) ?_
      refine lv_aload_n hx hb dX8_front_38 rfl (lv_at hl 0 rfl) ?_
      refine mg_0_20 hC hP tw_739 dX8_front_39 ?_
      refine lv_icmp_ge (tgt := 136) hx hb dX8_front_42 (by decide) (fun c11 => ?_) (fun c11 => ?_)
      · rw [if_pos c11] at hf
        exact hk_136 x1 x2 x4 x5 σ H locs ls hP hS (lv_sub hl [0, 1, 2, 4, 5] rfl) hf
      rw [if_neg c11] at hf
      refine lv_iload_n hx hb dX8_front_45 rfl (lv_at hl 3 rfl) ?_
      refine lv_iconst (v := (-1)) hx hb dX8_front_46 (by decide) ?_
      refine lv_icmp_eq (tgt := 69) hx hb dX8_front_47 (by decide) (fun c12 => ?_) (fun c12 => ?_)
      · rw [if_pos c12] at hf
        exact hw_69 (M_front_36 N k_136 n) ih x1 x2 x3 x4 x5 x6 σ H locs ls hP hS (lv_sub hl [0, 1, 2, 3, 4, 5, 6] rfl) hf
      rw [if_neg c12] at hf
      refine lv_aload_n hx hb dX8_front_50 rfl (lv_at hl 0 rfl) ?_
      refine mg_0_24 hC hP tw_743 dX8_front_51 ?_
      refine lv_iload hx hb dX8_front_54 (lv_at hl 6 rfl) ?_
      obtain ⟨g13, hf⟩ := grd_some hf
      refine ml_14 hC hP g13 dX8_front_56 ?_
      refine lv_aload_n hx hb dX8_front_57 rfl (lv_at hl 0 rfl) ?_
      refine mg_0_24 hC hP tw_743 dX8_front_58 ?_
      refine lv_iload_n hx hb dX8_front_61 rfl (lv_at hl 3 rfl) ?_
      obtain ⟨g14, hf⟩ := grd_some hf
      refine ml_14 hC hP g14 dX8_front_62 ?_
      refine lv_icmp_lt (tgt := 69) hx hb dX8_front_63 (by decide) (fun c15 => ?_) (fun c15 => ?_)
      · rw [if_pos c15] at hf
        exact hw_69 (M_front_36 N k_136 n) ih x1 x2 x3 x4 x5 x6 σ H locs ls hP hS (lv_sub hl [0, 1, 2, 3, 4, 5, 6] rfl) hf
      rw [if_neg c15] at hf
      refine lv_goto (tgt := 130) hx hb dX8_front_66 (by decide) ?_
      refine lv_iinc (v := (x6 + 1)) (lv' := [(6, .int (x6 + 1)), (0, .ref (ad 0)), (1, .int x1), (2, .int x2), (3, .int x3), (4, .int x4), (5, .int x5)]) hx hb dX8_front_130 hl (k := 6) rfl rfl (by decide) rfl (fun ls hl => ?_)
      refine lv_goto (tgt := 36) hx hb dX8_front_133 (by decide) ?_
      exact ih x1 x2 x3 x4 x5 (x6 + 1) σ H locs ls hP hS (lv_sub hl [1, 2, 3, 4, 5, 6, 0] rfl) hf
  have hw_136 : ∀ (k_24 : Int32 → Int32 → Int32 → Int32 → St → Option (Int32 × St)) (hk_24 : ∀ (x1 : Int32) (x2 : Int32) (x3 : Int32) (x4 : Int32) (σ : St) (H : Heap) (locs : List Loc) (ls : Array Slot), va_P D vwCl ((mw ad cI cZ) σ) H → va_S A s.heap H locs → lv_has ls 7 [(0, .ref (ad 0)), (1, .int x1), (2, .int x2), (3, .int x3), (4, .int x4)] → k_24 x1 x2 x3 x4 σ = some (r, τ) → W p l e (rm_M_front) s m av.toArray below meth c H locs 0 0 (QI below av.toArray s D A (mw ad cI cZ) r τ) (F0 m 24 ls [])), ∀ (x1 : Int32) (x2 : Int32) (x4 : Int32) (x5 : Int32) (σ : St) (H : Heap) (locs : List Loc) (ls : Array Slot), va_P D vwCl ((mw ad cI cZ) σ) H → va_S A s.heap H locs → lv_has ls 7 [(0, .ref (ad 0)), (1, .int x1), (2, .int x2), (4, .int x4), (5, .int x5)] → M_front_136 N k_24 x1 x2 x4 x5 σ = some (r, τ) → W p l e (rm_M_front) s m av.toArray below meth c H locs 0 0 (QI below av.toArray s D A (mw ad cI cZ) r τ) (F0 m 136 ls []) := by
    intro k_24 hk_24 x1 x2 x4 x5 σ H locs ls hP hS hl hf
    unfold M_front_136 at hf
    refine lv_iload hx hb dX8_front_136 (lv_at hl 4 rfl) ?_
    refine lv_iconst (v := (-1)) hx hb dX8_front_138 (by decide) ?_
    refine lv_icmp_ne (tgt := 144) hx hb dX8_front_139 (by decide) (fun c16 => ?_) (fun c16 => ?_)
    · rw [if_neg c16] at hf
      refine lv_iload hx hb dX8_front_144 (lv_at hl 4 rfl) ?_
      refine lv_istore_n (lv' := [(3, .int x5), (0, .ref (ad 0)), (1, .int x1), (2, .int x2), (4, .int x4), (5, .int x5)]) hx hb dX8_front_146 rfl hl (by decide) rfl (fun ls hl => ?_)
      refine lv_iinc (v := (x4 + 1)) (lv' := [(4, .int (x4 + 1)), (3, .int x5), (0, .ref (ad 0)), (1, .int x1), (2, .int x2), (5, .int x5)]) hx hb dX8_front_147 hl (k := 4) rfl rfl (by decide) rfl (fun ls hl => ?_)
      refine lv_goto (tgt := 24) hx hb dX8_front_150 (by decide) ?_
      exact hk_24 x1 x2 x5 (x4 + 1) σ H locs ls hP hS (lv_sub hl [2, 3, 4, 1, 0] rfl) hf
    rw [if_pos c16] at hf
    refine lv_iconst (v := (-1)) hx hb dX8_front_142 (by decide) ?_
    obtain ⟨h1, h2⟩ := ret2 hf
    exact retI hx hb hr hlocks hP hS h1 h2 dX8_front_143
  have hw_24 : ∀ (k_153 : Int32 → Int32 → St → Option (Int32 × St)) (hk_153 : ∀ (x2 : Int32) (x3 : Int32) (σ : St) (H : Heap) (locs : List Loc) (ls : Array Slot), va_P D vwCl ((mw ad cI cZ) σ) H → va_S A s.heap H locs → lv_has ls 7 [(0, .ref (ad 0)), (2, .int x2), (3, .int x3)] → k_153 x2 x3 σ = some (r, τ) → W p l e (rm_M_front) s m av.toArray below meth c H locs 0 0 (QI below av.toArray s D A (mw ad cI cZ) r τ) (F0 m 153 ls [])), ∀ (n : Nat), ∀ (x1 : Int32) (x2 : Int32) (x3 : Int32) (x4 : Int32) (σ : St) (H : Heap) (locs : List Loc) (ls : Array Slot), va_P D vwCl ((mw ad cI cZ) σ) H → va_S A s.heap H locs → lv_has ls 7 [(0, .ref (ad 0)), (1, .int x1), (2, .int x2), (3, .int x3), (4, .int x4)] → M_front_24 N k_153 n x1 x2 x3 x4 σ = some (r, τ) → W p l e (rm_M_front) s m av.toArray below meth c H locs 0 0 (QI below av.toArray s D A (mw ad cI cZ) r τ) (F0 m 24 ls []) := by
    intro k_153 hk_153
    intro n
    induction n with
    | zero =>
      intro x1 x2 x3 x4 σ H locs ls hP hS hl hf
      cases hf
    | succ n ih =>
      intro x1 x2 x3 x4 σ H locs ls hP hS hl hf
      rw [M_front_24_s] at hf
      refine lv_iload hx hb dX8_front_24 (lv_at hl 4 rfl) ?_
      refine lv_iload_n hx hb dX8_front_26 rfl (lv_at hl 1 rfl) ?_
      refine lv_icmp_gt (tgt := 153) hx hb dX8_front_27 (by decide) (fun c17 => ?_) (fun c17 => ?_)
      · rw [if_pos c17] at hf
        exact hk_153 x2 x3 σ H locs ls hP hS (lv_sub hl [0, 2, 3] rfl) hf
      rw [if_neg c17] at hf
      refine lv_iconst (v := (-1)) hx hb dX8_front_30 (by decide) ?_
      refine lv_istore (lv' := [(5, .int (-1)), (0, .ref (ad 0)), (1, .int x1), (2, .int x2), (3, .int x3), (4, .int x4)]) hx hb dX8_front_31 hl (by decide) rfl (fun ls hl => ?_)
      refine lv_iconst (v := 0) hx hb dX8_front_33 (by decide) ?_
      refine lv_istore (lv' := [(6, .int 0), (5, .int (-1)), (0, .ref (ad 0)), (1, .int x1), (2, .int x2), (3, .int x3), (4, .int x4)]) hx hb dX8_front_34 hl (by decide) rfl (fun ls hl => ?_)
      exact hw_36 (M_front_136 N (M_front_24 N k_153 n)) (hw_136 (M_front_24 N k_153 n) ih) N x1 x2 x3 x4 (-1) 0 σ H locs ls hP hS (lv_sub hl [2, 3, 4, 5, 6, 1, 0] rfl) hf
  have hw_153 : ∀ (x2 : Int32) (x3 : Int32) (σ : St) (H : Heap) (locs : List Loc) (ls : Array Slot), va_P D vwCl ((mw ad cI cZ) σ) H → va_S A s.heap H locs → lv_has ls 7 [(0, .ref (ad 0)), (2, .int x2), (3, .int x3)] → M_front_153 N x2 x3 σ = some (r, τ) → W p l e (rm_M_front) s m av.toArray below meth c H locs 0 0 (QI below av.toArray s D A (mw ad cI cZ) r τ) (F0 m 153 ls []) := by
    intro x2 x3 σ H locs ls hP hS hl hf
    unfold M_front_153 at hf
    refine lv_iload_n hx hb dX8_front_153 rfl (lv_at hl 1 rfl) ?_
    refine lv_if_ne (tgt := 166) hx hb dX8_front_154 (by decide) (fun c18 => ?_) (fun c18 => ?_)
    · rw [if_neg c18] at hf
      refine lv_iload_n hx hb dX8_front_166 rfl (lv_at hl 1 rfl) ?_
      refine lv_iconst (v := 1) hx hb dX8_front_167 (by decide) ?_
      refine lv_icmp_ne (tgt := 180) hx hb dX8_front_168 (by decide) (fun c19 => ?_) (fun c19 => ?_)
      · rw [if_neg c19] at hf
        refine lv_aload_n hx hb dX8_front_180 rfl (lv_at hl 0 rfl) ?_
        refine mg_0_24 hC hP tw_743 dX8_front_181 ?_
        refine lv_iload_n hx hb dX8_front_184 rfl (lv_at hl 2 rfl) ?_
        obtain ⟨g20, hf⟩ := grd_some hf
        refine ml_14 hC hP g20 dX8_front_185 ?_
        obtain ⟨h1, h2⟩ := ret2 hf
        exact retI hx hb hr hlocks hP hS h1 h2 dX8_front_186
      rw [if_pos c19] at hf
      refine lv_aload_n hx hb dX8_front_171 rfl (lv_at hl 0 rfl) ?_
      refine mg_0_23 hC hP tw_742 dX8_front_172 ?_
      refine lv_iload_n hx hb dX8_front_175 rfl (lv_at hl 2 rfl) ?_
      obtain ⟨g21, hf⟩ := grd_some hf
      refine ml_13 hC hP g21 dX8_front_176 ?_
      refine lv_goto (tgt := 186) hx hb dX8_front_177 (by decide) ?_
      obtain ⟨h1, h2⟩ := ret2 hf
      exact retI hx hb hr hlocks hP hS h1 h2 dX8_front_186
    rw [if_pos c18] at hf
    refine lv_aload_n hx hb dX8_front_157 rfl (lv_at hl 0 rfl) ?_
    refine mg_0_22 hC hP tw_741 dX8_front_158 ?_
    refine lv_iload_n hx hb dX8_front_161 rfl (lv_at hl 2 rfl) ?_
    obtain ⟨g22, hf⟩ := grd_some hf
    refine ml_12 hC hP g22 dX8_front_162 ?_
    refine lv_goto (tgt := 186) hx hb dX8_front_163 (by decide) ?_
    obtain ⟨h1, h2⟩ := ret2 hf
    exact retI hx hb hr hlocks hP hS h1 h2 dX8_front_186
  obtain ⟨H, hH⟩ : ∃ z, z = s.heap := ⟨_, rfl⟩
  obtain ⟨locs, hlocs⟩ : ∃ z : List Loc, z = [] := ⟨_, rfl⟩
  rw [← hH] at hP
  have hS : va_S A s.heap H locs := by rw [hH, hlocs]; exact va_S.rf
  suffices hgoal : W p l e _ s m _ below meth c H locs 0 0 _ _ by rw [hH, hlocs] at hgoal; exact hgoal
  refine lv_aload_n hx hb dX8_front_0 rfl (lv_at hl 0 rfl) ?_
  obtain ⟨σ23, hcσ23, hf⟩ := bnd_some hf
  refine cVv (As := []) (rest := []) hC (k_M_works l ad cI cJ cZ hcσ23) yy_X8_works tw_912 rfl rfl ⟨by decide, by decide⟩ hP hS (q0 := 0) (ci := 8) rfl rfl (mwa_0 ..) rfl hl.1 rfl (Nat.le_of_ble_eq_true rfl) dX8_front_1 (fun H locs hP hS => ?_)
  refine lv_iload_n hx hb dX8_front_4 rfl (lv_at hl 1 rfl) ?_
  refine lv_if_lt (tgt := 17) hx hb dX8_front_5 (by decide) (fun c24 => ?_) (fun c24 => ?_)
  · rw [if_pos c24] at hf
    refine lv_iconst (v := (-1)) hx hb dX8_front_17 (by decide) ?_
    obtain ⟨h1, h2⟩ := ret2 hf
    exact retI hx hb hr hlocks hP hS h1 h2 dX8_front_18
  rw [if_neg c24] at hf
  refine lv_iload_n hx hb dX8_front_8 rfl (lv_at hl 2 rfl) ?_
  refine lv_iconst (v := 0) hx hb dX8_front_9 (by decide) ?_
  refine lv_iconst (v := 2) hx hb dX8_front_10 (by decide) ?_
  refine cSi (As := [.int x2, .int 0, .int 2]) (rest := []) hC (k_M_lies l (mw ad cI cZ) (mw_ok ad cI cZ) (ty3 cI cJ cZ) _ rfl) yy_X8_lies tw_815 rfl rfl ⟨by decide, by decide⟩ hP hS rfl hl.1 rfl (Nat.le_of_ble_eq_true rfl) dX8_front_11 (fun H locs hP hS => ?_)
  refine lv_if_ne (tgt := 19) hx hb dX8_front_14 (by decide) (fun c25 => ?_) (fun c25 => ?_)
  · rw [if_neg c25] at hf
    refine lv_iconst (v := (-1)) hx hb dX8_front_19 (by decide) ?_
    refine lv_istore_n (lv' := [(3, .int (-1)), (0, .ref (ad 0)), (1, .int x1), (2, .int x2)]) hx hb dX8_front_20 rfl hl (by decide) rfl (fun ls hl => ?_)
    refine lv_iconst (v := 0) hx hb dX8_front_21 (by decide) ?_
    refine lv_istore (lv' := [(4, .int 0), (3, .int (-1)), (0, .ref (ad 0)), (1, .int x1), (2, .int x2)]) hx hb dX8_front_22 hl (by decide) rfl (fun ls hl => ?_)
    exact hw_24 (M_front_153 N) hw_153 N x1 x2 (-1) 0 σ23 H locs ls hP hS (lv_sub hl [2, 3, 4, 1, 0] rfl) hf
  rw [if_pos c25] at hf
  refine lv_iconst (v := (-1)) hx hb dX8_front_17 (by decide) ?_
  obtain ⟨h1, h2⟩ := ret2 hf
  exact retI hx hb hr hlocks hP hS h1 h2 dX8_front_18
theorem dX8_swapped_0 : decode cX8_swapped 0 = .ok (.iload_n 1, 1) := by decide +kernel
theorem dX8_swapped_1 : decode cX8_swapped 1 = .ok (.iload_n 2, 1) := by decide +kernel
theorem dX8_swapped_2 : decode cX8_swapped 2 = .ok (.invokestatic 115, 3) := by decide +kernel
theorem dX8_swapped_5 : decode cX8_swapped 5 = .ok (.ifCond .eq 11, 3) := by decide +kernel
theorem dX8_swapped_8 : decode cX8_swapped 8 = .ok (.iload_n 1, 1) := by decide +kernel
theorem dX8_swapped_9 : decode cX8_swapped 9 = .ok (.iload_n 3, 1) := by decide +kernel
theorem dX8_swapped_10 : decode cX8_swapped 10 = .ok (.invokestatic 115, 3) := by decide +kernel
theorem dX8_swapped_13 : decode cX8_swapped 13 = .ok (.ifCond .eq 7, 3) := by decide +kernel
theorem dX8_swapped_16 : decode cX8_swapped 16 = .ok (.iconst (-1), 1) := by decide +kernel
theorem dX8_swapped_17 : decode cX8_swapped 17 = .ok (.goto 19, 3) := by decide +kernel
theorem dX8_swapped_20 : decode cX8_swapped 20 = .ok (.aload_n 0, 1) := by decide +kernel
theorem dX8_swapped_21 : decode cX8_swapped 21 = .ok (.getfield 69, 3) := by decide +kernel
theorem dX8_swapped_24 : decode cX8_swapped 24 = .ok (.iload_n 1, 1) := by decide +kernel
theorem dX8_swapped_25 : decode cX8_swapped 25 = .ok (.iconst 1, 1) := by decide +kernel
theorem dX8_swapped_26 : decode cX8_swapped 26 = .ok (.iload_n 2, 1) := by decide +kernel
theorem dX8_swapped_27 : decode cX8_swapped 27 = .ok (.ishl, 1) := by decide +kernel
theorem dX8_swapped_28 : decode cX8_swapped 28 = .ok (.iconst (-1), 1) := by decide +kernel
theorem dX8_swapped_29 : decode cX8_swapped 29 = .ok (.ixor, 1) := by decide +kernel
theorem dX8_swapped_30 : decode cX8_swapped 30 = .ok (.iand, 1) := by decide +kernel
theorem dX8_swapped_31 : decode cX8_swapped 31 = .ok (.iconst 1, 1) := by decide +kernel
theorem dX8_swapped_32 : decode cX8_swapped 32 = .ok (.iload_n 3, 1) := by decide +kernel
theorem dX8_swapped_33 : decode cX8_swapped 33 = .ok (.ishl, 1) := by decide +kernel
theorem dX8_swapped_34 : decode cX8_swapped 34 = .ok (.ior, 1) := by decide +kernel
theorem dX8_swapped_35 : decode cX8_swapped 35 = .ok (.iaload, 1) := by decide +kernel
theorem dX8_swapped_36 : decode cX8_swapped 36 = .ok (.ireturn, 1) := by decide +kernel
def M_swapped (N : Nat) (x1 : Int32) (x2 : Int32) (x3 : Int32) (σ0 : St) : Option (Int32) := if (M_has x1 x2) = 0 then some (-1) else if (M_has x1 x3) = 0 then grd (inb ((x1 &&& (((1 : Int32) <<< (x2 &&& 31)) ^^^ (-1))) ||| ((1 : Int32) <<< (x3 &&& 31))) 16384) (some (σ0.2.1 14 (((x1 &&& (((1 : Int32) <<< (x2 &&& 31)) ^^^ (-1))) ||| ((1 : Int32) <<< (x3 &&& 31)))).toNatClampNeg)) else some (-1)
abbrev rm_M_swapped : Room := { frames := 1, cells := 0, slots := 0, locals := 21 }
set_option maxHeartbeats 4000000 in
set_option maxRecDepth 100000 in
theorem k_M_swapped (l : Launch) (ad : Nat → Nat) (cI cJ cZ : ClassId) {N : Nat} {x1 : Int32} {x2 : Int32} {x3 : Int32} {σ0 : St} {r : Int32} (hf : M_swapped N x1 x2 x3 σ0 = some r) : CtI l yX8_swapped (gws (.code yX8_swapped cX8_swapped 4 (some .int))) (rm_M_swapped) (ty3 cI cJ cZ) (mw ad cI cZ) [.ref (ad 0), .int x1, .int x2, .int x3] σ0 r σ0 := by
  refine CtI.of (by decide) (mw_ok ad cI cZ) (Nat.le_of_ble_eq_true rfl) ?_
  generalize hav : ([.ref (ad 0), .int x1, .int x2, .int x3] : List Value) = av
  intro p e s m below meth c D A hC ls hl hP hS
  obtain ⟨hx, hb, hr, hlocks, hml, hown, hts, hK, hN, hD, hA⟩ := id hC
  rw [← hav] at hl
  have hl : lv_has ls 4 [(0, .ref (ad 0)), (1, .int x1), (2, .int x2), (3, .int x3)] := hl
  unfold M_swapped at hf
  obtain ⟨H, hH⟩ : ∃ z, z = s.heap := ⟨_, rfl⟩
  obtain ⟨locs, hlocs⟩ : ∃ z : List Loc, z = [] := ⟨_, rfl⟩
  rw [← hH] at hP
  have hS : va_S A s.heap H locs := by rw [hH, hlocs]; exact va_S.rf
  suffices hgoal : W p l e _ s m _ below meth c H locs 0 0 _ _ by rw [hH, hlocs] at hgoal; exact hgoal
  refine lv_iload_n hx hb dX8_swapped_0 rfl (lv_at hl 1 rfl) ?_
  refine lv_iload_n hx hb dX8_swapped_1 rfl (lv_at hl 2 rfl) ?_
  refine cSi (As := [.int x1, .int x2]) (rest := []) hC (k_M_has l (mw ad cI cZ) (mw_ok ad cI cZ) (ty3 cI cJ cZ) _ rfl) yy_X8_has tw_881 rfl rfl ⟨by decide, by decide⟩ hP hS rfl hl.1 rfl (Nat.le_of_ble_eq_true rfl) dX8_swapped_2 (fun H locs hP hS => ?_)
  refine lv_if_eq (tgt := 16) hx hb dX8_swapped_5 (by decide) (fun c1 => ?_) (fun c1 => ?_)
  · rw [if_pos c1] at hf
    refine lv_iconst (v := (-1)) hx hb dX8_swapped_16 (by decide) ?_
    refine lv_goto (tgt := 36) hx hb dX8_swapped_17 (by decide) ?_
    have h1 := Option.some.inj hf
    exact retI hx hb hr hlocks hP hS h1 rfl dX8_swapped_36
  rw [if_neg c1] at hf
  refine lv_iload_n hx hb dX8_swapped_8 rfl (lv_at hl 1 rfl) ?_
  refine lv_iload_n hx hb dX8_swapped_9 rfl (lv_at hl 3 rfl) ?_
  refine cSi (As := [.int x1, .int x3]) (rest := []) hC (k_M_has l (mw ad cI cZ) (mw_ok ad cI cZ) (ty3 cI cJ cZ) _ rfl) yy_X8_has tw_881 rfl rfl ⟨by decide, by decide⟩ hP hS rfl hl.1 rfl (Nat.le_of_ble_eq_true rfl) dX8_swapped_10 (fun H locs hP hS => ?_)
  refine lv_if_eq (tgt := 20) hx hb dX8_swapped_13 (by decide) (fun c2 => ?_) (fun c2 => ?_)
  · rw [if_pos c2] at hf
    refine lv_aload_n hx hb dX8_swapped_20 rfl (lv_at hl 0 rfl) ?_
    refine mg_0_25 hC hP tw_744 dX8_swapped_21 ?_
    refine lv_iload_n hx hb dX8_swapped_24 rfl (lv_at hl 1 rfl) ?_
    refine lv_iconst (v := 1) hx hb dX8_swapped_25 (by decide) ?_
    refine lv_iload_n hx hb dX8_swapped_26 rfl (lv_at hl 2 rfl) ?_
    refine lv_ishl hx hb dX8_swapped_27 ?_
    refine lv_iconst (v := (-1)) hx hb dX8_swapped_28 (by decide) ?_
    refine lv_ixor hx hb dX8_swapped_29 ?_
    refine lv_iand hx hb dX8_swapped_30 ?_
    refine lv_iconst (v := 1) hx hb dX8_swapped_31 (by decide) ?_
    refine lv_iload_n hx hb dX8_swapped_32 rfl (lv_at hl 3 rfl) ?_
    refine lv_ishl hx hb dX8_swapped_33 ?_
    refine lv_ior hx hb dX8_swapped_34 ?_
    obtain ⟨g3, hf⟩ := grd_some hf
    refine ml_15 hC hP g3 dX8_swapped_35 ?_
    have h1 := Option.some.inj hf
    exact retI hx hb hr hlocks hP hS h1 rfl dX8_swapped_36
  rw [if_neg c2] at hf
  refine lv_iconst (v := (-1)) hx hb dX8_swapped_16 (by decide) ?_
  refine lv_goto (tgt := 36) hx hb dX8_swapped_17 (by decide) ?_
  have h1 := Option.some.inj hf
  exact retI hx hb hr hlocks hP hS h1 rfl dX8_swapped_36
theorem dX8_measures_0 : decode cX8_measures 0 = .ok (.iconst 0, 1) := by decide +kernel
theorem dX8_measures_1 : decode cX8_measures 1 = .ok (.istore_n 2, 1) := by decide +kernel
theorem dX8_measures_2 : decode cX8_measures 2 = .ok (.iload_n 2, 1) := by decide +kernel
theorem dX8_measures_3 : decode cX8_measures 3 = .ok (.aload_n 0, 1) := by decide +kernel
theorem dX8_measures_4 : decode cX8_measures 4 = .ok (.getfield 142, 3) := by decide +kernel
theorem dX8_measures_7 : decode cX8_measures 7 = .ok (.if_icmp .ge 16, 3) := by decide +kernel
theorem dX8_measures_10 : decode cX8_measures 10 = .ok (.aload_n 0, 1) := by decide +kernel
theorem dX8_measures_11 : decode cX8_measures 11 = .ok (.getfield 78, 3) := by decide +kernel
theorem dX8_measures_14 : decode cX8_measures 14 = .ok (.iload_n 2, 1) := by decide +kernel
theorem dX8_measures_15 : decode cX8_measures 15 = .ok (.iconst (-1), 1) := by decide +kernel
theorem dX8_measures_16 : decode cX8_measures 16 = .ok (.iastore, 1) := by decide +kernel
theorem dX8_measures_17 : decode cX8_measures 17 = .ok (.iinc 2 1, 3) := by decide +kernel
theorem dX8_measures_20 : decode cX8_measures 20 = .ok (.goto (-18), 3) := by decide +kernel
theorem dX8_measures_23 : decode cX8_measures 23 = .ok (.aload_n 0, 1) := by decide +kernel
theorem dX8_measures_24 : decode cX8_measures 24 = .ok (.getfield 78, 3) := by decide +kernel
theorem dX8_measures_27 : decode cX8_measures 27 = .ok (.iload_n 1, 1) := by decide +kernel
theorem dX8_measures_28 : decode cX8_measures 28 = .ok (.iconst 0, 1) := by decide +kernel
theorem dX8_measures_29 : decode cX8_measures 29 = .ok (.iastore, 1) := by decide +kernel
theorem dX8_measures_30 : decode cX8_measures 30 = .ok (.aload_n 0, 1) := by decide +kernel
theorem dX8_measures_31 : decode cX8_measures 31 = .ok (.getfield 81, 3) := by decide +kernel
theorem dX8_measures_34 : decode cX8_measures 34 = .ok (.iconst 0, 1) := by decide +kernel
theorem dX8_measures_35 : decode cX8_measures 35 = .ok (.iload_n 1, 1) := by decide +kernel
theorem dX8_measures_36 : decode cX8_measures 36 = .ok (.iastore, 1) := by decide +kernel
theorem dX8_measures_37 : decode cX8_measures 37 = .ok (.iconst 1, 1) := by decide +kernel
theorem dX8_measures_38 : decode cX8_measures 38 = .ok (.istore_n 2, 1) := by decide +kernel
theorem dX8_measures_39 : decode cX8_measures 39 = .ok (.iconst 0, 1) := by decide +kernel
theorem dX8_measures_40 : decode cX8_measures 40 = .ok (.istore_n 3, 1) := by decide +kernel
theorem dX8_measures_41 : decode cX8_measures 41 = .ok (.iload_n 3, 1) := by decide +kernel
theorem dX8_measures_42 : decode cX8_measures 42 = .ok (.iload_n 2, 1) := by decide +kernel
theorem dX8_measures_43 : decode cX8_measures 43 = .ok (.if_icmp .ge 117, 3) := by decide +kernel
theorem dX8_measures_46 : decode cX8_measures 46 = .ok (.aload_n 0, 1) := by decide +kernel
theorem dX8_measures_47 : decode cX8_measures 47 = .ok (.getfield 81, 3) := by decide +kernel
theorem dX8_measures_50 : decode cX8_measures 50 = .ok (.iload_n 3, 1) := by decide +kernel
theorem dX8_measures_51 : decode cX8_measures 51 = .ok (.iaload, 1) := by decide +kernel
theorem dX8_measures_52 : decode cX8_measures 52 = .ok (.istore 4, 2) := by decide +kernel
theorem dX8_measures_54 : decode cX8_measures 54 = .ok (.iconst 0, 1) := by decide +kernel
theorem dX8_measures_55 : decode cX8_measures 55 = .ok (.istore 5, 2) := by decide +kernel
theorem dX8_measures_57 : decode cX8_measures 57 = .ok (.iload 5, 2) := by decide +kernel
theorem dX8_measures_59 : decode cX8_measures 59 = .ok (.aload_n 0, 1) := by decide +kernel
theorem dX8_measures_60 : decode cX8_measures 60 = .ok (.getfield 87, 3) := by decide +kernel
theorem dX8_measures_63 : decode cX8_measures 63 = .ok (.if_icmp .ge 91, 3) := by decide +kernel
theorem dX8_measures_66 : decode cX8_measures 66 = .ok (.iconst 0, 1) := by decide +kernel
theorem dX8_measures_67 : decode cX8_measures 67 = .ok (.istore 6, 2) := by decide +kernel
theorem dX8_measures_69 : decode cX8_measures 69 = .ok (.iload 6, 2) := by decide +kernel
theorem dX8_measures_71 : decode cX8_measures 71 = .ok (.aload_n 0, 1) := by decide +kernel
theorem dX8_measures_72 : decode cX8_measures 72 = .ok (.getfield 87, 3) := by decide +kernel
theorem dX8_measures_75 : decode cX8_measures 75 = .ok (.if_icmp .ge 73, 3) := by decide +kernel
theorem dX8_measures_78 : decode cX8_measures 78 = .ok (.aload_n 0, 1) := by decide +kernel
theorem dX8_measures_79 : decode cX8_measures 79 = .ok (.aload_n 0, 1) := by decide +kernel
theorem dX8_measures_80 : decode cX8_measures 80 = .ok (.getfield 60, 3) := by decide +kernel
theorem dX8_measures_83 : decode cX8_measures 83 = .ok (.iload 4, 2) := by decide +kernel
theorem dX8_measures_85 : decode cX8_measures 85 = .ok (.iaload, 1) := by decide +kernel
theorem dX8_measures_86 : decode cX8_measures 86 = .ok (.iload 5, 2) := by decide +kernel
theorem dX8_measures_88 : decode cX8_measures 88 = .ok (.iload 6, 2) := by decide +kernel
theorem dX8_measures_90 : decode cX8_measures 90 = .ok (.invokevirtual 155, 3) := by decide +kernel
theorem dX8_measures_93 : decode cX8_measures 93 = .ok (.istore 7, 2) := by decide +kernel
theorem dX8_measures_95 : decode cX8_measures 95 = .ok (.iload 7, 2) := by decide +kernel
theorem dX8_measures_97 : decode cX8_measures 97 = .ok (.iconst (-1), 1) := by decide +kernel
theorem dX8_measures_98 : decode cX8_measures 98 = .ok (.if_icmp .eq 44, 3) := by decide +kernel
theorem dX8_measures_101 : decode cX8_measures 101 = .ok (.aload_n 0, 1) := by decide +kernel
theorem dX8_measures_102 : decode cX8_measures 102 = .ok (.getfield 78, 3) := by decide +kernel
theorem dX8_measures_105 : decode cX8_measures 105 = .ok (.iload 7, 2) := by decide +kernel
theorem dX8_measures_107 : decode cX8_measures 107 = .ok (.iaload, 1) := by decide +kernel
theorem dX8_measures_108 : decode cX8_measures 108 = .ok (.iconst (-1), 1) := by decide +kernel
theorem dX8_measures_109 : decode cX8_measures 109 = .ok (.if_icmp .eq 6, 3) := by decide +kernel
theorem dX8_measures_112 : decode cX8_measures 112 = .ok (.goto 30, 3) := by decide +kernel
theorem dX8_measures_115 : decode cX8_measures 115 = .ok (.aload_n 0, 1) := by decide +kernel
theorem dX8_measures_116 : decode cX8_measures 116 = .ok (.getfield 78, 3) := by decide +kernel
theorem dX8_measures_119 : decode cX8_measures 119 = .ok (.iload 7, 2) := by decide +kernel
theorem dX8_measures_121 : decode cX8_measures 121 = .ok (.aload_n 0, 1) := by decide +kernel
theorem dX8_measures_122 : decode cX8_measures 122 = .ok (.getfield 78, 3) := by decide +kernel
theorem dX8_measures_125 : decode cX8_measures 125 = .ok (.iload 4, 2) := by decide +kernel
theorem dX8_measures_127 : decode cX8_measures 127 = .ok (.iaload, 1) := by decide +kernel
theorem dX8_measures_128 : decode cX8_measures 128 = .ok (.iconst 1, 1) := by decide +kernel
theorem dX8_measures_129 : decode cX8_measures 129 = .ok (.iadd, 1) := by decide +kernel
theorem dX8_measures_130 : decode cX8_measures 130 = .ok (.iastore, 1) := by decide +kernel
theorem dX8_measures_131 : decode cX8_measures 131 = .ok (.aload_n 0, 1) := by decide +kernel
theorem dX8_measures_132 : decode cX8_measures 132 = .ok (.getfield 81, 3) := by decide +kernel
theorem dX8_measures_135 : decode cX8_measures 135 = .ok (.iload_n 2, 1) := by decide +kernel
theorem dX8_measures_136 : decode cX8_measures 136 = .ok (.iload 7, 2) := by decide +kernel
theorem dX8_measures_138 : decode cX8_measures 138 = .ok (.iastore, 1) := by decide +kernel
theorem dX8_measures_139 : decode cX8_measures 139 = .ok (.iinc 2 1, 3) := by decide +kernel
theorem dX8_measures_142 : decode cX8_measures 142 = .ok (.iinc 6 1, 3) := by decide +kernel
theorem dX8_measures_145 : decode cX8_measures 145 = .ok (.goto (-76), 3) := by decide +kernel
theorem dX8_measures_148 : decode cX8_measures 148 = .ok (.iinc 5 1, 3) := by decide +kernel
theorem dX8_measures_151 : decode cX8_measures 151 = .ok (.goto (-94), 3) := by decide +kernel
theorem dX8_measures_154 : decode cX8_measures 154 = .ok (.iinc 3 1, 3) := by decide +kernel
theorem dX8_measures_157 : decode cX8_measures 157 = .ok (.goto (-116), 3) := by decide +kernel
theorem dX8_measures_160 : decode cX8_measures 160 = .ok (.return_, 1) := by decide +kernel
def M_measures_2 (N : Nat) (k_23 : Int32 → St → Option (St)) : Nat → Int32 → Int32 → St → Option (St)
  | 0, _, _, _ => none
  | n + 1, x1, x2, σ => if (σ.1 10) ≤ x2 then k_23 x1 σ else grd (inb x2 3432) (lt (sa σ 17 (x2).toNatClampNeg (-1)) (fun σ3 => M_measures_2 N k_23 n x1 (x2 + 1) σ3))
theorem M_measures_2_s (N : Nat) (k_23 : Int32 → St → Option (St)) (n : Nat) (x1 : Int32) (x2 : Int32) (σ : St) : M_measures_2 N k_23 (n + 1) x1 x2 σ = if (σ.1 10) ≤ x2 then k_23 x1 σ else grd (inb x2 3432) (lt (sa σ 17 (x2).toNatClampNeg (-1)) (fun σ3 => M_measures_2 N k_23 n x1 (x2 + 1) σ3)) := rfl
def M_measures_69 (N : Nat) (k_57 : Int32 → Int32 → Int32 → Int32 → St → Option (St)) : Nat → Int32 → Int32 → Int32 → Int32 → Int32 → St → Option (St)
  | 0, _, _, _, _, _, _ => none
  | n + 1, x2, x3, x4, x5, x6, σ => if (σ.1 1) ≤ x6 then k_57 x2 x3 x4 (x5 + 1) σ else grd (inb x4 3432) (bnd (M_swapped N (σ.2.1 11 (x4).toNatClampNeg) x5 x6 σ) (fun y6 => if y6 = (-1) then M_measures_69 N k_57 n x2 x3 x4 x5 (x6 + 1) σ else grd (inb y6 3432) (if (σ.2.1 17 (y6).toNatClampNeg) = (-1) then grd (inb x4 3432) (grd (inb y6 3432) (lt (sa σ 17 (y6).toNatClampNeg ((σ.2.1 17 (x4).toNatClampNeg) + 1)) (fun σ12 => grd (inb x2 3432) (lt (sa σ12 18 (x2).toNatClampNeg y6) (fun σ14 => M_measures_69 N k_57 n (x2 + 1) x3 x4 x5 (x6 + 1) σ14))))) else M_measures_69 N k_57 n x2 x3 x4 x5 (x6 + 1) σ)))
theorem M_measures_69_s (N : Nat) (k_57 : Int32 → Int32 → Int32 → Int32 → St → Option (St)) (n : Nat) (x2 : Int32) (x3 : Int32) (x4 : Int32) (x5 : Int32) (x6 : Int32) (σ : St) : M_measures_69 N k_57 (n + 1) x2 x3 x4 x5 x6 σ = if (σ.1 1) ≤ x6 then k_57 x2 x3 x4 (x5 + 1) σ else grd (inb x4 3432) (bnd (M_swapped N (σ.2.1 11 (x4).toNatClampNeg) x5 x6 σ) (fun y6 => if y6 = (-1) then M_measures_69 N k_57 n x2 x3 x4 x5 (x6 + 1) σ else grd (inb y6 3432) (if (σ.2.1 17 (y6).toNatClampNeg) = (-1) then grd (inb x4 3432) (grd (inb y6 3432) (lt (sa σ 17 (y6).toNatClampNeg ((σ.2.1 17 (x4).toNatClampNeg) + 1)) (fun σ12 => grd (inb x2 3432) (lt (sa σ12 18 (x2).toNatClampNeg y6) (fun σ14 => M_measures_69 N k_57 n (x2 + 1) x3 x4 x5 (x6 + 1) σ14))))) else M_measures_69 N k_57 n x2 x3 x4 x5 (x6 + 1) σ))) := rfl
def M_measures_57 (N : Nat) (k_41 : Int32 → Int32 → St → Option (St)) : Nat → Int32 → Int32 → Int32 → Int32 → St → Option (St)
  | 0, _, _, _, _, _ => none
  | n + 1, x2, x3, x4, x5, σ => if (σ.1 1) ≤ x5 then k_41 x2 (x3 + 1) σ else M_measures_69 N (M_measures_57 N k_41 n) N x2 x3 x4 x5 0 σ
theorem M_measures_57_s (N : Nat) (k_41 : Int32 → Int32 → St → Option (St)) (n : Nat) (x2 : Int32) (x3 : Int32) (x4 : Int32) (x5 : Int32) (σ : St) : M_measures_57 N k_41 (n + 1) x2 x3 x4 x5 σ = if (σ.1 1) ≤ x5 then k_41 x2 (x3 + 1) σ else M_measures_69 N (M_measures_57 N k_41 n) N x2 x3 x4 x5 0 σ := rfl
def M_measures_41 (N : Nat) : Nat → Int32 → Int32 → St → Option (St)
  | 0, _, _, _ => none
  | n + 1, x2, x3, σ => if x2 ≤ x3 then some σ else grd (inb x3 3432) (lt ((σ.2.1 18 (x3).toNatClampNeg)) (fun y18 => M_measures_57 N (M_measures_41 N n) N x2 x3 y18 0 σ))
theorem M_measures_41_s (N : Nat) (n : Nat) (x2 : Int32) (x3 : Int32) (σ : St) : M_measures_41 N (n + 1) x2 x3 σ = if x2 ≤ x3 then some σ else grd (inb x3 3432) (lt ((σ.2.1 18 (x3).toNatClampNeg)) (fun y18 => M_measures_57 N (M_measures_41 N n) N x2 x3 y18 0 σ)) := rfl
def M_measures_23 (N : Nat) (x1 : Int32) (σ : St) : Option (St) := grd (inb x1 3432) (lt (sa σ 17 (x1).toNatClampNeg 0) (fun σ20 => grd (inb 0 3432) (lt (sa σ20 18 ((0 : Int32)).toNatClampNeg x1) (fun σ22 => M_measures_41 N N 1 0 σ22))))
def M_measures (N : Nat) (x1 : Int32) (σ0 : St) : Option (St) := M_measures_2 N (M_measures_23 N) N x1 0 σ0
abbrev rm_M_measures : Room := { frames := 2, cells := 0, slots := 0, locals := 44 }
set_option maxHeartbeats 4000000 in
set_option maxRecDepth 100000 in
theorem k_M_measures (l : Launch) (ad : Nat → Nat) (cI cJ cZ : ClassId) {N : Nat} {x1 : Int32} {σ0 : St} {τ : St} (hf : M_measures N x1 σ0 = some τ) : CtV l yX8_measures (gws (.code yX8_measures cX8_measures 8 none)) (rm_M_measures) (ty3 cI cJ cZ) (mw ad cI cZ) [.ref (ad 0), .int x1] σ0 τ := by
  refine CtV.of (by decide) (mw_ok ad cI cZ) (Nat.le_of_ble_eq_true rfl) ?_
  generalize hav : ([.ref (ad 0), .int x1] : List Value) = av
  intro p e s m below meth c D A hC ls hl hP hS
  obtain ⟨hx, hb, hr, hlocks, hml, hown, hts, hK, hN, hD, hA⟩ := id hC
  rw [← hav] at hl
  have hl : lv_has ls 8 [(0, .ref (ad 0)), (1, .int x1)] := hl
  unfold M_measures at hf
  have hw_2 : ∀ (k_23 : Int32 → St → Option (St)) (hk_23 : ∀ (x1 : Int32) (σ : St) (H : Heap) (locs : List Loc) (ls : Array Slot), va_P D vwCl ((mw ad cI cZ) σ) H → va_S A s.heap H locs → lv_has ls 8 [(0, .ref (ad 0)), (1, .int x1)] → k_23 x1 σ = some τ → W p l e (rm_M_measures) s m av.toArray below meth c H locs 0 0 (QV below av.toArray s D A (mw ad cI cZ) τ) (F0 m 23 ls [])), ∀ (n : Nat), ∀ (x1 : Int32) (x2 : Int32) (σ : St) (H : Heap) (locs : List Loc) (ls : Array Slot), va_P D vwCl ((mw ad cI cZ) σ) H → va_S A s.heap H locs → lv_has ls 8 [(0, .ref (ad 0)), (1, .int x1), (2, .int x2)] → M_measures_2 N k_23 n x1 x2 σ = some τ → W p l e (rm_M_measures) s m av.toArray below meth c H locs 0 0 (QV below av.toArray s D A (mw ad cI cZ) τ) (F0 m 2 ls []) := by
    intro k_23 hk_23
    intro n
    induction n with
    | zero =>
      intro x1 x2 σ H locs ls hP hS hl hf
      cases hf
    | succ n ih =>
      intro x1 x2 σ H locs ls hP hS hl hf
      rw [M_measures_2_s] at hf
      refine lv_iload_n hx hb dX8_measures_2 rfl (lv_at hl 2 rfl) ?_
      refine lv_aload_n hx hb dX8_measures_3 rfl (lv_at hl 0 rfl) ?_
      refine mg_0_20 hC hP tw_739 dX8_measures_4 ?_
      refine lv_icmp_ge (tgt := 23) hx hb dX8_measures_7 (by decide) (fun c1 => ?_) (fun c1 => ?_)
      · rw [if_pos c1] at hf
        exact hk_23 x1 σ H locs ls hP hS (lv_sub hl [0, 1] rfl) hf
      rw [if_neg c1] at hf
      refine lv_aload_n hx hb dX8_measures_10 rfl (lv_at hl 0 rfl) ?_
      refine mg_0_28 hC hP tw_747 dX8_measures_11 ?_
      refine lv_iload_n hx hb dX8_measures_14 rfl (lv_at hl 2 rfl) ?_
      refine lv_iconst (v := (-1)) hx hb dX8_measures_15 (by decide) ?_
      obtain ⟨g2, hf⟩ := grd_some hf
      refine ms_18 hC hP hS g2 dX8_measures_16 (fun H locs hP hS => ?_)
      obtain ⟨σ3, eσ3, hf⟩ := lt_e hf
      rw [← eσ3] at hP
      refine lv_iinc (v := (x2 + 1)) (lv' := [(2, .int (x2 + 1)), (0, .ref (ad 0)), (1, .int x1)]) hx hb dX8_measures_17 hl (k := 2) rfl rfl (by decide) rfl (fun ls hl => ?_)
      refine lv_goto (tgt := 2) hx hb dX8_measures_20 (by decide) ?_
      exact ih x1 (x2 + 1) σ3 H locs ls hP hS (lv_sub hl [1, 2, 0] rfl) hf
  have hw_69 : ∀ (k_57 : Int32 → Int32 → Int32 → Int32 → St → Option (St)) (hk_57 : ∀ (x2 : Int32) (x3 : Int32) (x4 : Int32) (x5 : Int32) (σ : St) (H : Heap) (locs : List Loc) (ls : Array Slot), va_P D vwCl ((mw ad cI cZ) σ) H → va_S A s.heap H locs → lv_has ls 8 [(0, .ref (ad 0)), (2, .int x2), (3, .int x3), (4, .int x4), (5, .int x5)] → k_57 x2 x3 x4 x5 σ = some τ → W p l e (rm_M_measures) s m av.toArray below meth c H locs 0 0 (QV below av.toArray s D A (mw ad cI cZ) τ) (F0 m 57 ls [])), ∀ (n : Nat), ∀ (x2 : Int32) (x3 : Int32) (x4 : Int32) (x5 : Int32) (x6 : Int32) (σ : St) (H : Heap) (locs : List Loc) (ls : Array Slot), va_P D vwCl ((mw ad cI cZ) σ) H → va_S A s.heap H locs → lv_has ls 8 [(0, .ref (ad 0)), (2, .int x2), (3, .int x3), (4, .int x4), (5, .int x5), (6, .int x6)] → M_measures_69 N k_57 n x2 x3 x4 x5 x6 σ = some τ → W p l e (rm_M_measures) s m av.toArray below meth c H locs 0 0 (QV below av.toArray s D A (mw ad cI cZ) τ) (F0 m 69 ls []) := by
    intro k_57 hk_57
    intro n
    induction n with
    | zero =>
      intro x2 x3 x4 x5 x6 σ H locs ls hP hS hl hf
      cases hf
    | succ n ih =>
      intro x2 x3 x4 x5 x6 σ H locs ls hP hS hl hf
      rw [M_measures_69_s] at hf
      refine lv_iload hx hb dX8_measures_69 (lv_at hl 5 rfl) ?_
      refine lv_aload_n hx hb dX8_measures_71 rfl (lv_at hl 0 rfl) ?_
      refine mg_0_1 hC hP tw_720 dX8_measures_72 ?_
      refine lv_icmp_ge (tgt := 148) hx hb dX8_measures_75 (by decide) (fun c4 => ?_) (fun c4 => ?_)
      · rw [if_pos c4] at hf
        refine lv_iinc (v := (x5 + 1)) (lv' := [(5, .int (x5 + 1)), (0, .ref (ad 0)), (2, .int x2), (3, .int x3), (4, .int x4), (6, .int x6)]) hx hb dX8_measures_148 hl (k := 4) rfl rfl (by decide) rfl (fun ls hl => ?_)
        refine lv_goto (tgt := 57) hx hb dX8_measures_151 (by decide) ?_
        exact hk_57 x2 x3 x4 (x5 + 1) σ H locs ls hP hS (lv_sub hl [1, 2, 3, 4, 0] rfl) hf
      rw [if_neg c4] at hf
      refine lv_aload_n hx hb dX8_measures_78 rfl (lv_at hl 0 rfl) ?_
      refine lv_aload_n hx hb dX8_measures_79 rfl (lv_at hl 0 rfl) ?_
      refine mg_0_22 hC hP tw_741 dX8_measures_80 ?_
      refine lv_iload hx hb dX8_measures_83 (lv_at hl 3 rfl) ?_
      obtain ⟨g5, hf⟩ := grd_some hf
      refine ml_12 hC hP g5 dX8_measures_85 ?_
      refine lv_iload hx hb dX8_measures_86 (lv_at hl 4 rfl) ?_
      refine lv_iload hx hb dX8_measures_88 (lv_at hl 5 rfl) ?_
      obtain ⟨y6, hcy6, hf⟩ := bnd_some hf
      refine cVi (As := [.int (σ.2.1 11 (x4).toNatClampNeg), .int x5, .int x6]) (rest := []) hC (k_M_swapped l ad cI cJ cZ hcy6) yy_X8_swapped tw_956 rfl rfl ⟨by decide, by decide⟩ hP hS (q0 := 0) (ci := 8) rfl rfl (mwa_0 ..) rfl hl.1 rfl (Nat.le_of_ble_eq_true rfl) dX8_measures_90 (fun H locs hP hS => ?_)
      refine lv_istore (lv' := [(7, .int y6), (0, .ref (ad 0)), (2, .int x2), (3, .int x3), (4, .int x4), (5, .int x5), (6, .int x6)]) hx hb dX8_measures_93 hl (by decide) rfl (fun ls hl => ?_)
      refine lv_iload hx hb dX8_measures_95 (lv_at hl 0 rfl) ?_
      refine lv_iconst (v := (-1)) hx hb dX8_measures_97 (by decide) ?_
      refine lv_icmp_eq (tgt := 142) hx hb dX8_measures_98 (by decide) (fun c7 => ?_) (fun c7 => ?_)
      · rw [if_pos c7] at hf
        refine lv_iinc (v := (x6 + 1)) (lv' := [(6, .int (x6 + 1)), (7, .int y6), (0, .ref (ad 0)), (2, .int x2), (3, .int x3), (4, .int x4), (5, .int x5)]) hx hb dX8_measures_142 hl (k := 6) rfl rfl (by decide) rfl (fun ls hl => ?_)
        refine lv_goto (tgt := 69) hx hb dX8_measures_145 (by decide) ?_
        exact ih x2 x3 x4 x5 (x6 + 1) σ H locs ls hP hS (lv_sub hl [2, 3, 4, 5, 6, 0] rfl) hf
      rw [if_neg c7] at hf
      refine lv_aload_n hx hb dX8_measures_101 rfl (lv_at hl 1 rfl) ?_
      refine mg_0_28 hC hP tw_747 dX8_measures_102 ?_
      refine lv_iload hx hb dX8_measures_105 (lv_at hl 0 rfl) ?_
      obtain ⟨g8, hf⟩ := grd_some hf
      refine ml_18 hC hP g8 dX8_measures_107 ?_
      refine lv_iconst (v := (-1)) hx hb dX8_measures_108 (by decide) ?_
      refine lv_icmp_eq (tgt := 115) hx hb dX8_measures_109 (by decide) (fun c9 => ?_) (fun c9 => ?_)
      · rw [if_pos c9] at hf
        refine lv_aload_n hx hb dX8_measures_115 rfl (lv_at hl 1 rfl) ?_
        refine mg_0_28 hC hP tw_747 dX8_measures_116 ?_
        refine lv_iload hx hb dX8_measures_119 (lv_at hl 0 rfl) ?_
        refine lv_aload_n hx hb dX8_measures_121 rfl (lv_at hl 1 rfl) ?_
        refine mg_0_28 hC hP tw_747 dX8_measures_122 ?_
        refine lv_iload hx hb dX8_measures_125 (lv_at hl 4 rfl) ?_
        obtain ⟨g10, hf⟩ := grd_some hf
        refine ml_18 hC hP g10 dX8_measures_127 ?_
        refine lv_iconst (v := 1) hx hb dX8_measures_128 (by decide) ?_
        refine lv_iadd hx hb dX8_measures_129 ?_
        obtain ⟨g11, hf⟩ := grd_some hf
        refine ms_18 hC hP hS g11 dX8_measures_130 (fun H locs hP hS => ?_)
        obtain ⟨σ12, eσ12, hf⟩ := lt_e hf
        rw [← eσ12] at hP
        refine lv_aload_n hx hb dX8_measures_131 rfl (lv_at hl 1 rfl) ?_
        refine mg_0_29 hC hP tw_748 dX8_measures_132 ?_
        refine lv_iload_n hx hb dX8_measures_135 rfl (lv_at hl 2 rfl) ?_
        refine lv_iload hx hb dX8_measures_136 (lv_at hl 0 rfl) ?_
        obtain ⟨g13, hf⟩ := grd_some hf
        refine ms_19 hC hP hS g13 dX8_measures_138 (fun H locs hP hS => ?_)
        obtain ⟨σ14, eσ14, hf⟩ := lt_e hf
        rw [← eσ14] at hP
        refine lv_iinc (v := (x2 + 1)) (lv' := [(2, .int (x2 + 1)), (7, .int y6), (0, .ref (ad 0)), (3, .int x3), (4, .int x4), (5, .int x5), (6, .int x6)]) hx hb dX8_measures_139 hl (k := 2) rfl rfl (by decide) rfl (fun ls hl => ?_)
        refine lv_iinc (v := (x6 + 1)) (lv' := [(6, .int (x6 + 1)), (2, .int (x2 + 1)), (7, .int y6), (0, .ref (ad 0)), (3, .int x3), (4, .int x4), (5, .int x5)]) hx hb dX8_measures_142 hl (k := 6) rfl rfl (by decide) rfl (fun ls hl => ?_)
        refine lv_goto (tgt := 69) hx hb dX8_measures_145 (by decide) ?_
        exact ih (x2 + 1) x3 x4 x5 (x6 + 1) σ14 H locs ls hP hS (lv_sub hl [3, 1, 4, 5, 6, 0] rfl) hf
      rw [if_neg c9] at hf
      refine lv_goto (tgt := 142) hx hb dX8_measures_112 (by decide) ?_
      refine lv_iinc (v := (x6 + 1)) (lv' := [(6, .int (x6 + 1)), (7, .int y6), (0, .ref (ad 0)), (2, .int x2), (3, .int x3), (4, .int x4), (5, .int x5)]) hx hb dX8_measures_142 hl (k := 6) rfl rfl (by decide) rfl (fun ls hl => ?_)
      refine lv_goto (tgt := 69) hx hb dX8_measures_145 (by decide) ?_
      exact ih x2 x3 x4 x5 (x6 + 1) σ H locs ls hP hS (lv_sub hl [2, 3, 4, 5, 6, 0] rfl) hf
  have hw_57 : ∀ (k_41 : Int32 → Int32 → St → Option (St)) (hk_41 : ∀ (x2 : Int32) (x3 : Int32) (σ : St) (H : Heap) (locs : List Loc) (ls : Array Slot), va_P D vwCl ((mw ad cI cZ) σ) H → va_S A s.heap H locs → lv_has ls 8 [(0, .ref (ad 0)), (2, .int x2), (3, .int x3)] → k_41 x2 x3 σ = some τ → W p l e (rm_M_measures) s m av.toArray below meth c H locs 0 0 (QV below av.toArray s D A (mw ad cI cZ) τ) (F0 m 41 ls [])), ∀ (n : Nat), ∀ (x2 : Int32) (x3 : Int32) (x4 : Int32) (x5 : Int32) (σ : St) (H : Heap) (locs : List Loc) (ls : Array Slot), va_P D vwCl ((mw ad cI cZ) σ) H → va_S A s.heap H locs → lv_has ls 8 [(0, .ref (ad 0)), (2, .int x2), (3, .int x3), (4, .int x4), (5, .int x5)] → M_measures_57 N k_41 n x2 x3 x4 x5 σ = some τ → W p l e (rm_M_measures) s m av.toArray below meth c H locs 0 0 (QV below av.toArray s D A (mw ad cI cZ) τ) (F0 m 57 ls []) := by
    intro k_41 hk_41
    intro n
    induction n with
    | zero =>
      intro x2 x3 x4 x5 σ H locs ls hP hS hl hf
      cases hf
    | succ n ih =>
      intro x2 x3 x4 x5 σ H locs ls hP hS hl hf
      rw [M_measures_57_s] at hf
      refine lv_iload hx hb dX8_measures_57 (lv_at hl 4 rfl) ?_
      refine lv_aload_n hx hb dX8_measures_59 rfl (lv_at hl 0 rfl) ?_
      refine mg_0_1 hC hP tw_720 dX8_measures_60 ?_
      refine lv_icmp_ge (tgt := 154) hx hb dX8_measures_63 (by decide) (fun c15 => ?_) (fun c15 => ?_)
      · rw [if_pos c15] at hf
        refine lv_iinc (v := (x3 + 1)) (lv' := [(3, .int (x3 + 1)), (0, .ref (ad 0)), (2, .int x2), (4, .int x4), (5, .int x5)]) hx hb dX8_measures_154 hl (k := 2) rfl rfl (by decide) rfl (fun ls hl => ?_)
        refine lv_goto (tgt := 41) hx hb dX8_measures_157 (by decide) ?_
        exact hk_41 x2 (x3 + 1) σ H locs ls hP hS (lv_sub hl [1, 2, 0] rfl) hf
      rw [if_neg c15] at hf
      refine lv_iconst (v := 0) hx hb dX8_measures_66 (by decide) ?_
      refine lv_istore (lv' := [(6, .int 0), (0, .ref (ad 0)), (2, .int x2), (3, .int x3), (4, .int x4), (5, .int x5)]) hx hb dX8_measures_67 hl (by decide) rfl (fun ls hl => ?_)
      exact hw_69 (M_measures_57 N k_41 n) ih N x2 x3 x4 x5 0 σ H locs ls hP hS (lv_sub hl [1, 2, 3, 4, 5, 0] rfl) hf
  have hw_41 : ∀ (n : Nat), ∀ (x2 : Int32) (x3 : Int32) (σ : St) (H : Heap) (locs : List Loc) (ls : Array Slot), va_P D vwCl ((mw ad cI cZ) σ) H → va_S A s.heap H locs → lv_has ls 8 [(0, .ref (ad 0)), (2, .int x2), (3, .int x3)] → M_measures_41 N n x2 x3 σ = some τ → W p l e (rm_M_measures) s m av.toArray below meth c H locs 0 0 (QV below av.toArray s D A (mw ad cI cZ) τ) (F0 m 41 ls []) := by
    intro n
    induction n with
    | zero =>
      intro x2 x3 σ H locs ls hP hS hl hf
      cases hf
    | succ n ih =>
      intro x2 x3 σ H locs ls hP hS hl hf
      rw [M_measures_41_s] at hf
      refine lv_iload_n hx hb dX8_measures_41 rfl (lv_at hl 2 rfl) ?_
      refine lv_iload_n hx hb dX8_measures_42 rfl (lv_at hl 1 rfl) ?_
      refine lv_icmp_ge (tgt := 160) hx hb dX8_measures_43 (by decide) (fun c16 => ?_) (fun c16 => ?_)
      · rw [if_pos c16] at hf
        have h2 := Option.some.inj hf
        exact retV hx hb hr hlocks hP hS h2 dX8_measures_160
      rw [if_neg c16] at hf
      refine lv_aload_n hx hb dX8_measures_46 rfl (lv_at hl 0 rfl) ?_
      refine mg_0_29 hC hP tw_748 dX8_measures_47 ?_
      refine lv_iload_n hx hb dX8_measures_50 rfl (lv_at hl 2 rfl) ?_
      obtain ⟨g17, hf⟩ := grd_some hf
      refine ml_19 hC hP g17 dX8_measures_51 ?_
      obtain ⟨y18, ey18, hf⟩ := lt_e hf
      rw [← ey18]
      refine lv_istore (lv' := [(4, .int y18), (0, .ref (ad 0)), (2, .int x2), (3, .int x3)]) hx hb dX8_measures_52 hl (by decide) rfl (fun ls hl => ?_)
      refine lv_iconst (v := 0) hx hb dX8_measures_54 (by decide) ?_
      refine lv_istore (lv' := [(5, .int 0), (4, .int y18), (0, .ref (ad 0)), (2, .int x2), (3, .int x3)]) hx hb dX8_measures_55 hl (by decide) rfl (fun ls hl => ?_)
      exact hw_57 (M_measures_41 N n) ih N x2 x3 y18 0 σ H locs ls hP hS (lv_sub hl [2, 3, 4, 1, 0] rfl) hf
  have hw_23 : ∀ (x1 : Int32) (σ : St) (H : Heap) (locs : List Loc) (ls : Array Slot), va_P D vwCl ((mw ad cI cZ) σ) H → va_S A s.heap H locs → lv_has ls 8 [(0, .ref (ad 0)), (1, .int x1)] → M_measures_23 N x1 σ = some τ → W p l e (rm_M_measures) s m av.toArray below meth c H locs 0 0 (QV below av.toArray s D A (mw ad cI cZ) τ) (F0 m 23 ls []) := by
    intro x1 σ H locs ls hP hS hl hf
    unfold M_measures_23 at hf
    refine lv_aload_n hx hb dX8_measures_23 rfl (lv_at hl 0 rfl) ?_
    refine mg_0_28 hC hP tw_747 dX8_measures_24 ?_
    refine lv_iload_n hx hb dX8_measures_27 rfl (lv_at hl 1 rfl) ?_
    refine lv_iconst (v := 0) hx hb dX8_measures_28 (by decide) ?_
    obtain ⟨g19, hf⟩ := grd_some hf
    refine ms_18 hC hP hS g19 dX8_measures_29 (fun H locs hP hS => ?_)
    obtain ⟨σ20, eσ20, hf⟩ := lt_e hf
    rw [← eσ20] at hP
    refine lv_aload_n hx hb dX8_measures_30 rfl (lv_at hl 0 rfl) ?_
    refine mg_0_29 hC hP tw_748 dX8_measures_31 ?_
    refine lv_iconst (v := 0) hx hb dX8_measures_34 (by decide) ?_
    refine lv_iload_n hx hb dX8_measures_35 rfl (lv_at hl 1 rfl) ?_
    obtain ⟨g21, hf⟩ := grd_some hf
    refine ms_19 hC hP hS g21 dX8_measures_36 (fun H locs hP hS => ?_)
    obtain ⟨σ22, eσ22, hf⟩ := lt_e hf
    rw [← eσ22] at hP
    refine lv_iconst (v := 1) hx hb dX8_measures_37 (by decide) ?_
    refine lv_istore_n (lv' := [(2, .int 1), (0, .ref (ad 0)), (1, .int x1)]) hx hb dX8_measures_38 rfl hl (by decide) rfl (fun ls hl => ?_)
    refine lv_iconst (v := 0) hx hb dX8_measures_39 (by decide) ?_
    refine lv_istore_n (lv' := [(3, .int 0), (2, .int 1), (0, .ref (ad 0)), (1, .int x1)]) hx hb dX8_measures_40 rfl hl (by decide) rfl (fun ls hl => ?_)
    exact hw_41 N 1 0 σ22 H locs ls hP hS (lv_sub hl [2, 1, 0] rfl) hf
  obtain ⟨H, hH⟩ : ∃ z, z = s.heap := ⟨_, rfl⟩
  obtain ⟨locs, hlocs⟩ : ∃ z : List Loc, z = [] := ⟨_, rfl⟩
  rw [← hH] at hP
  have hS : va_S A s.heap H locs := by rw [hH, hlocs]; exact va_S.rf
  suffices hgoal : W p l e _ s m _ below meth c H locs 0 0 _ _ by rw [hH, hlocs] at hgoal; exact hgoal
  refine lv_iconst (v := 0) hx hb dX8_measures_0 (by decide) ?_
  refine lv_istore_n (lv' := [(2, .int 0), (0, .ref (ad 0)), (1, .int x1)]) hx hb dX8_measures_1 rfl hl (by decide) rfl (fun ls hl => ?_)
  exact hw_2 (M_measures_23 N) hw_23 N x1 0 σ0 H locs ls hP hS (lv_sub hl [1, 2, 0] rfl) hf
theorem dX8_goodOf_0 : decode cX8_goodOf 0 = .ok (.aload_n 0, 1) := by decide +kernel
theorem dX8_goodOf_1 : decode cX8_goodOf 1 = .ok (.invokevirtual 148, 3) := by decide +kernel
theorem dX8_goodOf_4 : decode cX8_goodOf 4 = .ok (.aload_n 0, 1) := by decide +kernel
theorem dX8_goodOf_5 : decode cX8_goodOf 5 = .ok (.iload_n 1, 1) := by decide +kernel
theorem dX8_goodOf_6 : decode cX8_goodOf 6 = .ok (.invokevirtual 130, 3) := by decide +kernel
theorem dX8_goodOf_9 : decode cX8_goodOf 9 = .ok (.ifCond .eq 12, 3) := by decide +kernel
theorem dX8_goodOf_12 : decode cX8_goodOf 12 = .ok (.aload_n 0, 1) := by decide +kernel
theorem dX8_goodOf_13 : decode cX8_goodOf 13 = .ok (.getfield 69, 3) := by decide +kernel
theorem dX8_goodOf_16 : decode cX8_goodOf 16 = .ok (.iload_n 1, 1) := by decide +kernel
theorem dX8_goodOf_17 : decode cX8_goodOf 17 = .ok (.iaload, 1) := by decide +kernel
theorem dX8_goodOf_18 : decode cX8_goodOf 18 = .ok (.goto 4, 3) := by decide +kernel
theorem dX8_goodOf_21 : decode cX8_goodOf 21 = .ok (.iconst (-1), 1) := by decide +kernel
theorem dX8_goodOf_22 : decode cX8_goodOf 22 = .ok (.ireturn, 1) := by decide +kernel
def M_goodOf (N : Nat) (x1 : Int32) (σ0 : St) : Option (Int32 × St) := bnd (M_works N σ0) (fun σ1 => if (M_isSet x1 σ1) = 0 then some ((-1), σ1) else grd (inb x1 16384) (some ((σ1.2.1 14 (x1).toNatClampNeg), σ1)))
abbrev rm_M_goodOf : Room := { frames := 5, cells := 0, slots := 0, locals := 115 }
set_option maxHeartbeats 4000000 in
set_option maxRecDepth 100000 in
theorem k_M_goodOf (l : Launch) (ad : Nat → Nat) (cI cJ cZ : ClassId) {N : Nat} {x1 : Int32} {σ0 : St} {r : Int32} {τ : St} (hf : M_goodOf N x1 σ0 = some (r, τ)) : CtI l yX8_goodOf (gws (.code yX8_goodOf cX8_goodOf 2 (some .int))) (rm_M_goodOf) (ty3 cI cJ cZ) (mw ad cI cZ) [.ref (ad 0), .int x1] σ0 r τ := by
  refine CtI.of (by decide) (mw_ok ad cI cZ) (Nat.le_of_ble_eq_true rfl) ?_
  generalize hav : ([.ref (ad 0), .int x1] : List Value) = av
  intro p e s m below meth c D A hC ls hl hP hS
  obtain ⟨hx, hb, hr, hlocks, hml, hown, hts, hK, hN, hD, hA⟩ := id hC
  rw [← hav] at hl
  have hl : lv_has ls 2 [(0, .ref (ad 0)), (1, .int x1)] := hl
  unfold M_goodOf at hf
  obtain ⟨H, hH⟩ : ∃ z, z = s.heap := ⟨_, rfl⟩
  obtain ⟨locs, hlocs⟩ : ∃ z : List Loc, z = [] := ⟨_, rfl⟩
  rw [← hH] at hP
  have hS : va_S A s.heap H locs := by rw [hH, hlocs]; exact va_S.rf
  suffices hgoal : W p l e _ s m _ below meth c H locs 0 0 _ _ by rw [hH, hlocs] at hgoal; exact hgoal
  refine lv_aload_n hx hb dX8_goodOf_0 rfl (lv_at hl 0 rfl) ?_
  obtain ⟨σ1, hcσ1, hf⟩ := bnd_some hf
  refine cVv (As := []) (rest := []) hC (k_M_works l ad cI cJ cZ hcσ1) yy_X8_works tw_912 rfl rfl ⟨by decide, by decide⟩ hP hS (q0 := 0) (ci := 8) rfl rfl (mwa_0 ..) rfl hl.1 rfl (Nat.le_of_ble_eq_true rfl) dX8_goodOf_1 (fun H locs hP hS => ?_)
  refine lv_aload_n hx hb dX8_goodOf_4 rfl (lv_at hl 0 rfl) ?_
  refine lv_iload_n hx hb dX8_goodOf_5 rfl (lv_at hl 1 rfl) ?_
  refine cVi (As := [.int x1]) (rest := []) hC (k_M_isSet l ad cI cJ cZ rfl) yy_X8_isSet tw_870 rfl rfl ⟨by decide, by decide⟩ hP hS (q0 := 0) (ci := 8) rfl rfl (mwa_0 ..) rfl hl.1 rfl (Nat.le_of_ble_eq_true rfl) dX8_goodOf_6 (fun H locs hP hS => ?_)
  refine lv_if_eq (tgt := 21) hx hb dX8_goodOf_9 (by decide) (fun c2 => ?_) (fun c2 => ?_)
  · rw [if_pos c2] at hf
    refine lv_iconst (v := (-1)) hx hb dX8_goodOf_21 (by decide) ?_
    obtain ⟨h1, h2⟩ := ret2 hf
    exact retI hx hb hr hlocks hP hS h1 h2 dX8_goodOf_22
  rw [if_neg c2] at hf
  refine lv_aload_n hx hb dX8_goodOf_12 rfl (lv_at hl 0 rfl) ?_
  refine mg_0_25 hC hP tw_744 dX8_goodOf_13 ?_
  refine lv_iload_n hx hb dX8_goodOf_16 rfl (lv_at hl 1 rfl) ?_
  obtain ⟨g3, hf⟩ := grd_some hf
  refine ml_15 hC hP g3 dX8_goodOf_17 ?_
  refine lv_goto (tgt := 22) hx hb dX8_goodOf_18 (by decide) ?_
  obtain ⟨h1, h2⟩ := ret2 hf
  exact retI hx hb hr hlocks hP hS h1 h2 dX8_goodOf_22
theorem dX8_swaps_0 : decode cX8_swaps 0 = .ok (.aload_n 0, 1) := by decide +kernel
theorem dX8_swaps_1 : decode cX8_swaps 1 = .ok (.iload_n 1, 1) := by decide +kernel
theorem dX8_swaps_2 : decode cX8_swaps 2 = .ok (.invokevirtual 159, 3) := by decide +kernel
theorem dX8_swaps_5 : decode cX8_swaps 5 = .ok (.istore_n 3, 1) := by decide +kernel
theorem dX8_swaps_6 : decode cX8_swaps 6 = .ok (.aload_n 0, 1) := by decide +kernel
theorem dX8_swaps_7 : decode cX8_swaps 7 = .ok (.iload_n 2, 1) := by decide +kernel
theorem dX8_swaps_8 : decode cX8_swaps 8 = .ok (.invokevirtual 159, 3) := by decide +kernel
theorem dX8_swaps_11 : decode cX8_swaps 11 = .ok (.istore 4, 2) := by decide +kernel
theorem dX8_swaps_13 : decode cX8_swaps 13 = .ok (.iload_n 3, 1) := by decide +kernel
theorem dX8_swaps_14 : decode cX8_swaps 14 = .ok (.iconst (-1), 1) := by decide +kernel
theorem dX8_swaps_15 : decode cX8_swaps 15 = .ok (.if_icmp .eq 9, 3) := by decide +kernel
theorem dX8_swaps_18 : decode cX8_swaps 18 = .ok (.iload 4, 2) := by decide +kernel
theorem dX8_swaps_20 : decode cX8_swaps 20 = .ok (.iconst (-1), 1) := by decide +kernel
theorem dX8_swaps_21 : decode cX8_swaps 21 = .ok (.if_icmp .ne 5, 3) := by decide +kernel
theorem dX8_swaps_24 : decode cX8_swaps 24 = .ok (.iconst (-1), 1) := by decide +kernel
theorem dX8_swaps_25 : decode cX8_swaps 25 = .ok (.ireturn, 1) := by decide +kernel
theorem dX8_swaps_26 : decode cX8_swaps 26 = .ok (.aload_n 0, 1) := by decide +kernel
theorem dX8_swaps_27 : decode cX8_swaps 27 = .ok (.iload 4, 2) := by decide +kernel
theorem dX8_swaps_29 : decode cX8_swaps 29 = .ok (.invokevirtual 162, 3) := by decide +kernel
theorem dX8_swaps_32 : decode cX8_swaps 32 = .ok (.aload_n 0, 1) := by decide +kernel
theorem dX8_swaps_33 : decode cX8_swaps 33 = .ok (.getfield 78, 3) := by decide +kernel
theorem dX8_swaps_36 : decode cX8_swaps 36 = .ok (.iload_n 3, 1) := by decide +kernel
theorem dX8_swaps_37 : decode cX8_swaps 37 = .ok (.iaload, 1) := by decide +kernel
theorem dX8_swaps_38 : decode cX8_swaps 38 = .ok (.ireturn, 1) := by decide +kernel
def M_swaps (N : Nat) (x1 : Int32) (x2 : Int32) (σ0 : St) : Option (Int32 × St) := bnd2 (M_goodOf N x1 σ0) (fun y1 σ2 => bnd2 (M_goodOf N x2 σ2) (fun y3 σ4 => if y1 = (-1) then some ((-1), σ4) else if y3 = (-1) then some ((-1), σ4) else bnd (M_measures N y3 σ4) (fun σ7 => grd (inb y1 3432) (some ((σ7.2.1 17 (y1).toNatClampNeg), σ7)))))
abbrev rm_M_swaps : Room := { frames := 6, cells := 0, slots := 0, locals := 136 }
set_option maxHeartbeats 4000000 in
set_option maxRecDepth 100000 in
theorem k_M_swaps (l : Launch) (ad : Nat → Nat) (cI cJ cZ : ClassId) {N : Nat} {x1 : Int32} {x2 : Int32} {σ0 : St} {r : Int32} {τ : St} (hf : M_swaps N x1 x2 σ0 = some (r, τ)) : CtI l yX8_swaps (gws (.code yX8_swaps cX8_swaps 5 (some .int))) (rm_M_swaps) (ty3 cI cJ cZ) (mw ad cI cZ) [.ref (ad 0), .int x1, .int x2] σ0 r τ := by
  refine CtI.of (by decide) (mw_ok ad cI cZ) (Nat.le_of_ble_eq_true rfl) ?_
  generalize hav : ([.ref (ad 0), .int x1, .int x2] : List Value) = av
  intro p e s m below meth c D A hC ls hl hP hS
  obtain ⟨hx, hb, hr, hlocks, hml, hown, hts, hK, hN, hD, hA⟩ := id hC
  rw [← hav] at hl
  have hl : lv_has ls 5 [(0, .ref (ad 0)), (1, .int x1), (2, .int x2)] := hl
  unfold M_swaps at hf
  obtain ⟨H, hH⟩ : ∃ z, z = s.heap := ⟨_, rfl⟩
  obtain ⟨locs, hlocs⟩ : ∃ z : List Loc, z = [] := ⟨_, rfl⟩
  rw [← hH] at hP
  have hS : va_S A s.heap H locs := by rw [hH, hlocs]; exact va_S.rf
  suffices hgoal : W p l e _ s m _ below meth c H locs 0 0 _ _ by rw [hH, hlocs] at hgoal; exact hgoal
  refine lv_aload_n hx hb dX8_swaps_0 rfl (lv_at hl 0 rfl) ?_
  refine lv_iload_n hx hb dX8_swaps_1 rfl (lv_at hl 1 rfl) ?_
  obtain ⟨y1, σ2, hcy1, hf⟩ := bnd2_some hf
  refine cVi (As := [.int x1]) (rest := []) hC (k_M_goodOf l ad cI cJ cZ hcy1) yy_X8_goodOf tw_948 rfl rfl ⟨by decide, by decide⟩ hP hS (q0 := 0) (ci := 8) rfl rfl (mwa_0 ..) rfl hl.1 rfl (Nat.le_of_ble_eq_true rfl) dX8_swaps_2 (fun H locs hP hS => ?_)
  refine lv_istore_n (lv' := [(3, .int y1), (0, .ref (ad 0)), (1, .int x1), (2, .int x2)]) hx hb dX8_swaps_5 rfl hl (by decide) rfl (fun ls hl => ?_)
  refine lv_aload_n hx hb dX8_swaps_6 rfl (lv_at hl 1 rfl) ?_
  refine lv_iload_n hx hb dX8_swaps_7 rfl (lv_at hl 3 rfl) ?_
  obtain ⟨y3, σ4, hcy3, hf⟩ := bnd2_some hf
  refine cVi (As := [.int x2]) (rest := []) hC (k_M_goodOf l ad cI cJ cZ hcy3) yy_X8_goodOf tw_948 rfl rfl ⟨by decide, by decide⟩ hP hS (q0 := 0) (ci := 8) rfl rfl (mwa_0 ..) rfl hl.1 rfl (Nat.le_of_ble_eq_true rfl) dX8_swaps_8 (fun H locs hP hS => ?_)
  refine lv_istore (lv' := [(4, .int y3), (3, .int y1), (0, .ref (ad 0)), (1, .int x1), (2, .int x2)]) hx hb dX8_swaps_11 hl (by decide) rfl (fun ls hl => ?_)
  refine lv_iload_n hx hb dX8_swaps_13 rfl (lv_at hl 1 rfl) ?_
  refine lv_iconst (v := (-1)) hx hb dX8_swaps_14 (by decide) ?_
  refine lv_icmp_eq (tgt := 24) hx hb dX8_swaps_15 (by decide) (fun c5 => ?_) (fun c5 => ?_)
  · rw [if_pos c5] at hf
    refine lv_iconst (v := (-1)) hx hb dX8_swaps_24 (by decide) ?_
    obtain ⟨h1, h2⟩ := ret2 hf
    exact retI hx hb hr hlocks hP hS h1 h2 dX8_swaps_25
  rw [if_neg c5] at hf
  refine lv_iload hx hb dX8_swaps_18 (lv_at hl 0 rfl) ?_
  refine lv_iconst (v := (-1)) hx hb dX8_swaps_20 (by decide) ?_
  refine lv_icmp_ne (tgt := 26) hx hb dX8_swaps_21 (by decide) (fun c6 => ?_) (fun c6 => ?_)
  · rw [if_neg c6] at hf
    refine lv_aload_n hx hb dX8_swaps_26 rfl (lv_at hl 2 rfl) ?_
    refine lv_iload hx hb dX8_swaps_27 (lv_at hl 0 rfl) ?_
    obtain ⟨σ7, hcσ7, hf⟩ := bnd_some hf
    refine cVv (As := [.int y3]) (rest := []) hC (k_M_measures l ad cI cJ cZ hcσ7) yy_X8_measures tw_952 rfl rfl ⟨by decide, by decide⟩ hP hS (q0 := 0) (ci := 8) rfl rfl (mwa_0 ..) rfl hl.1 rfl (Nat.le_of_ble_eq_true rfl) dX8_swaps_29 (fun H locs hP hS => ?_)
    refine lv_aload_n hx hb dX8_swaps_32 rfl (lv_at hl 2 rfl) ?_
    refine mg_0_28 hC hP tw_747 dX8_swaps_33 ?_
    refine lv_iload_n hx hb dX8_swaps_36 rfl (lv_at hl 1 rfl) ?_
    obtain ⟨g8, hf⟩ := grd_some hf
    refine ml_18 hC hP g8 dX8_swaps_37 ?_
    obtain ⟨h1, h2⟩ := ret2 hf
    exact retI hx hb hr hlocks hP hS h1 h2 dX8_swaps_38
  rw [if_pos c6] at hf
  refine lv_iconst (v := (-1)) hx hb dX8_swaps_24 (by decide) ?_
  obtain ⟨h1, h2⟩ := ret2 hf
  exact retI hx hb hr hlocks hP hS h1 h2 dX8_swaps_25
theorem dX8_step_0 : decode cX8_step 0 = .ok (.iload_n 3, 1) := by decide +kernel
theorem dX8_step_1 : decode cX8_step 1 = .ok (.iconst 0, 1) := by decide +kernel
theorem dX8_step_2 : decode cX8_step 2 = .ok (.aload_n 0, 1) := by decide +kernel
theorem dX8_step_3 : decode cX8_step 3 = .ok (.iload_n 1, 1) := by decide +kernel
theorem dX8_step_4 : decode cX8_step 4 = .ok (.iload_n 2, 1) := by decide +kernel
theorem dX8_step_5 : decode cX8_step 5 = .ok (.invokevirtual 166, 3) := by decide +kernel
theorem dX8_step_8 : decode cX8_step 8 = .ok (.invokestatic 100, 3) := by decide +kernel
theorem dX8_step_11 : decode cX8_step 11 = .ok (.ifCond .ne 5, 3) := by decide +kernel
theorem dX8_step_14 : decode cX8_step 14 = .ok (.iconst (-1), 1) := by decide +kernel
theorem dX8_step_15 : decode cX8_step 15 = .ok (.ireturn, 1) := by decide +kernel
theorem dX8_step_16 : decode cX8_step 16 = .ok (.aload_n 0, 1) := by decide +kernel
theorem dX8_step_17 : decode cX8_step 17 = .ok (.iload_n 1, 1) := by decide +kernel
theorem dX8_step_18 : decode cX8_step 18 = .ok (.invokevirtual 159, 3) := by decide +kernel
theorem dX8_step_21 : decode cX8_step 21 = .ok (.istore 4, 2) := by decide +kernel
theorem dX8_step_23 : decode cX8_step 23 = .ok (.iconst 0, 1) := by decide +kernel
theorem dX8_step_24 : decode cX8_step 24 = .ok (.istore 5, 2) := by decide +kernel
theorem dX8_step_26 : decode cX8_step 26 = .ok (.iload 5, 2) := by decide +kernel
theorem dX8_step_28 : decode cX8_step 28 = .ok (.iload_n 3, 1) := by decide +kernel
theorem dX8_step_29 : decode cX8_step 29 = .ok (.if_icmp .ge 111, 3) := by decide +kernel
theorem dX8_step_32 : decode cX8_step 32 = .ok (.iconst (-1), 1) := by decide +kernel
theorem dX8_step_33 : decode cX8_step 33 = .ok (.istore 6, 2) := by decide +kernel
theorem dX8_step_35 : decode cX8_step 35 = .ok (.iconst 0, 1) := by decide +kernel
theorem dX8_step_36 : decode cX8_step 36 = .ok (.istore 7, 2) := by decide +kernel
theorem dX8_step_38 : decode cX8_step 38 = .ok (.iload 7, 2) := by decide +kernel
theorem dX8_step_40 : decode cX8_step 40 = .ok (.aload_n 0, 1) := by decide +kernel
theorem dX8_step_41 : decode cX8_step 41 = .ok (.getfield 87, 3) := by decide +kernel
theorem dX8_step_44 : decode cX8_step 44 = .ok (.if_icmp .ge 86, 3) := by decide +kernel
theorem dX8_step_47 : decode cX8_step 47 = .ok (.iconst 0, 1) := by decide +kernel
theorem dX8_step_48 : decode cX8_step 48 = .ok (.istore 8, 2) := by decide +kernel
theorem dX8_step_50 : decode cX8_step 50 = .ok (.iload 8, 2) := by decide +kernel
theorem dX8_step_52 : decode cX8_step 52 = .ok (.aload_n 0, 1) := by decide +kernel
theorem dX8_step_53 : decode cX8_step 53 = .ok (.getfield 87, 3) := by decide +kernel
theorem dX8_step_56 : decode cX8_step 56 = .ok (.if_icmp .ge 68, 3) := by decide +kernel
theorem dX8_step_59 : decode cX8_step 59 = .ok (.aload_n 0, 1) := by decide +kernel
theorem dX8_step_60 : decode cX8_step 60 = .ok (.aload_n 0, 1) := by decide +kernel
theorem dX8_step_61 : decode cX8_step 61 = .ok (.getfield 60, 3) := by decide +kernel
theorem dX8_step_64 : decode cX8_step 64 = .ok (.iload 4, 2) := by decide +kernel
theorem dX8_step_66 : decode cX8_step 66 = .ok (.iaload, 1) := by decide +kernel
theorem dX8_step_67 : decode cX8_step 67 = .ok (.iload 7, 2) := by decide +kernel
theorem dX8_step_69 : decode cX8_step 69 = .ok (.iload 8, 2) := by decide +kernel
theorem dX8_step_71 : decode cX8_step 71 = .ok (.invokevirtual 155, 3) := by decide +kernel
theorem dX8_step_74 : decode cX8_step 74 = .ok (.istore 9, 2) := by decide +kernel
theorem dX8_step_76 : decode cX8_step 76 = .ok (.iload 9, 2) := by decide +kernel
theorem dX8_step_78 : decode cX8_step 78 = .ok (.iconst (-1), 1) := by decide +kernel
theorem dX8_step_79 : decode cX8_step 79 = .ok (.if_icmp .eq 39, 3) := by decide +kernel
theorem dX8_step_82 : decode cX8_step 82 = .ok (.aload_n 0, 1) := by decide +kernel
theorem dX8_step_83 : decode cX8_step 83 = .ok (.getfield 78, 3) := by decide +kernel
theorem dX8_step_86 : decode cX8_step 86 = .ok (.iload 9, 2) := by decide +kernel
theorem dX8_step_88 : decode cX8_step 88 = .ok (.iaload, 1) := by decide +kernel
theorem dX8_step_89 : decode cX8_step 89 = .ok (.aload_n 0, 1) := by decide +kernel
theorem dX8_step_90 : decode cX8_step 90 = .ok (.getfield 78, 3) := by decide +kernel
theorem dX8_step_93 : decode cX8_step 93 = .ok (.iload 4, 2) := by decide +kernel
theorem dX8_step_95 : decode cX8_step 95 = .ok (.iaload, 1) := by decide +kernel
theorem dX8_step_96 : decode cX8_step 96 = .ok (.iconst 1, 1) := by decide +kernel
theorem dX8_step_97 : decode cX8_step 97 = .ok (.isub, 1) := by decide +kernel
theorem dX8_step_98 : decode cX8_step 98 = .ok (.if_icmp .ne 20, 3) := by decide +kernel
theorem dX8_step_101 : decode cX8_step 101 = .ok (.iload 6, 2) := by decide +kernel
theorem dX8_step_103 : decode cX8_step 103 = .ok (.iconst (-1), 1) := by decide +kernel
theorem dX8_step_104 : decode cX8_step 104 = .ok (.if_icmp .eq 10, 3) := by decide +kernel
theorem dX8_step_107 : decode cX8_step 107 = .ok (.iload 9, 2) := by decide +kernel
theorem dX8_step_109 : decode cX8_step 109 = .ok (.iload 6, 2) := by decide +kernel
theorem dX8_step_111 : decode cX8_step 111 = .ok (.if_icmp .ge 7, 3) := by decide +kernel
theorem dX8_step_114 : decode cX8_step 114 = .ok (.iload 9, 2) := by decide +kernel
theorem dX8_step_116 : decode cX8_step 116 = .ok (.istore 6, 2) := by decide +kernel
theorem dX8_step_118 : decode cX8_step 118 = .ok (.iinc 8 1, 3) := by decide +kernel
theorem dX8_step_121 : decode cX8_step 121 = .ok (.goto (-71), 3) := by decide +kernel
theorem dX8_step_124 : decode cX8_step 124 = .ok (.iinc 7 1, 3) := by decide +kernel
theorem dX8_step_127 : decode cX8_step 127 = .ok (.goto (-89), 3) := by decide +kernel
theorem dX8_step_130 : decode cX8_step 130 = .ok (.iload 6, 2) := by decide +kernel
theorem dX8_step_132 : decode cX8_step 132 = .ok (.istore 4, 2) := by decide +kernel
theorem dX8_step_134 : decode cX8_step 134 = .ok (.iinc 5 1, 3) := by decide +kernel
theorem dX8_step_137 : decode cX8_step 137 = .ok (.goto (-111), 3) := by decide +kernel
theorem dX8_step_140 : decode cX8_step 140 = .ok (.aload_n 0, 1) := by decide +kernel
theorem dX8_step_141 : decode cX8_step 141 = .ok (.getfield 60, 3) := by decide +kernel
theorem dX8_step_144 : decode cX8_step 144 = .ok (.iload 4, 2) := by decide +kernel
theorem dX8_step_146 : decode cX8_step 146 = .ok (.iaload, 1) := by decide +kernel
theorem dX8_step_147 : decode cX8_step 147 = .ok (.ireturn, 1) := by decide +kernel
def M_step_50 (N : Nat) (k_38 : Int32 → Int32 → Int32 → Int32 → Int32 → St → Option (Int32 × St)) : Nat → Int32 → Int32 → Int32 → Int32 → Int32 → Int32 → St → Option (Int32 × St)
  | 0, _, _, _, _, _, _, _ => none
  | n + 1, x3, x4, x5, x6, x7, x8, σ => if (σ.1 1) ≤ x8 then k_38 x3 x4 x5 x6 (x7 + 1) σ else grd (inb x4 3432) (bnd (M_swapped N (σ.2.1 11 (x4).toNatClampNeg) x7 x8 σ) (fun y3 => if y3 = (-1) then M_step_50 N k_38 n x3 x4 x5 x6 x7 (x8 + 1) σ else grd (inb y3 3432) (grd (inb x4 3432) (if (σ.2.1 17 (y3).toNatClampNeg) = ((σ.2.1 17 (x4).toNatClampNeg) - 1) then if x6 = (-1) then M_step_50 N k_38 n x3 x4 x5 y3 x7 (x8 + 1) σ else if x6 ≤ y3 then M_step_50 N k_38 n x3 x4 x5 x6 x7 (x8 + 1) σ else M_step_50 N k_38 n x3 x4 x5 y3 x7 (x8 + 1) σ else M_step_50 N k_38 n x3 x4 x5 x6 x7 (x8 + 1) σ))))
theorem M_step_50_s (N : Nat) (k_38 : Int32 → Int32 → Int32 → Int32 → Int32 → St → Option (Int32 × St)) (n : Nat) (x3 : Int32) (x4 : Int32) (x5 : Int32) (x6 : Int32) (x7 : Int32) (x8 : Int32) (σ : St) : M_step_50 N k_38 (n + 1) x3 x4 x5 x6 x7 x8 σ = if (σ.1 1) ≤ x8 then k_38 x3 x4 x5 x6 (x7 + 1) σ else grd (inb x4 3432) (bnd (M_swapped N (σ.2.1 11 (x4).toNatClampNeg) x7 x8 σ) (fun y3 => if y3 = (-1) then M_step_50 N k_38 n x3 x4 x5 x6 x7 (x8 + 1) σ else grd (inb y3 3432) (grd (inb x4 3432) (if (σ.2.1 17 (y3).toNatClampNeg) = ((σ.2.1 17 (x4).toNatClampNeg) - 1) then if x6 = (-1) then M_step_50 N k_38 n x3 x4 x5 y3 x7 (x8 + 1) σ else if x6 ≤ y3 then M_step_50 N k_38 n x3 x4 x5 x6 x7 (x8 + 1) σ else M_step_50 N k_38 n x3 x4 x5 y3 x7 (x8 + 1) σ else M_step_50 N k_38 n x3 x4 x5 x6 x7 (x8 + 1) σ)))) := rfl
def M_step_38 (N : Nat) (k_130 : Int32 → Int32 → Int32 → St → Option (Int32 × St)) : Nat → Int32 → Int32 → Int32 → Int32 → Int32 → St → Option (Int32 × St)
  | 0, _, _, _, _, _, _ => none
  | n + 1, x3, x4, x5, x6, x7, σ => if (σ.1 1) ≤ x7 then k_130 x3 x5 x6 σ else M_step_50 N (M_step_38 N k_130 n) N x3 x4 x5 x6 x7 0 σ
theorem M_step_38_s (N : Nat) (k_130 : Int32 → Int32 → Int32 → St → Option (Int32 × St)) (n : Nat) (x3 : Int32) (x4 : Int32) (x5 : Int32) (x6 : Int32) (x7 : Int32) (σ : St) : M_step_38 N k_130 (n + 1) x3 x4 x5 x6 x7 σ = if (σ.1 1) ≤ x7 then k_130 x3 x5 x6 σ else M_step_50 N (M_step_38 N k_130 n) N x3 x4 x5 x6 x7 0 σ := rfl
def M_step_130 (N : Nat) (k_26 : Int32 → Int32 → Int32 → St → Option (Int32 × St)) (x3 : Int32) (x5 : Int32) (x6 : Int32) (σ : St) : Option (Int32 × St) := k_26 x3 x6 (x5 + 1) σ
def M_step_26 (N : Nat) (k_140 : Int32 → St → Option (Int32 × St)) : Nat → Int32 → Int32 → Int32 → St → Option (Int32 × St)
  | 0, _, _, _, _ => none
  | n + 1, x3, x4, x5, σ => if x3 ≤ x5 then k_140 x4 σ else M_step_38 N (M_step_130 N (M_step_26 N k_140 n)) N x3 x4 x5 (-1) 0 σ
theorem M_step_26_s (N : Nat) (k_140 : Int32 → St → Option (Int32 × St)) (n : Nat) (x3 : Int32) (x4 : Int32) (x5 : Int32) (σ : St) : M_step_26 N k_140 (n + 1) x3 x4 x5 σ = if x3 ≤ x5 then k_140 x4 σ else M_step_38 N (M_step_130 N (M_step_26 N k_140 n)) N x3 x4 x5 (-1) 0 σ := rfl
def M_step_140 (N : Nat) (x4 : Int32) (σ : St) : Option (Int32 × St) := grd (inb x4 3432) (some ((σ.2.1 11 (x4).toNatClampNeg), σ))
def M_step (N : Nat) (x1 : Int32) (x2 : Int32) (x3 : Int32) (σ0 : St) : Option (Int32 × St) := bnd2 (M_swaps N x1 x2 σ0) (fun y13 σ14 => if (M_lies x3 0 y13) = 0 then some ((-1), σ14) else bnd2 (M_goodOf N x1 σ14) (fun y16 σ17 => M_step_26 N (M_step_140 N) N x3 y16 0 σ17))
abbrev rm_M_step : Room := { frames := 7, cells := 0, slots := 0, locals := 160 }
set_option maxHeartbeats 4000000 in
set_option maxRecDepth 100000 in
theorem k_M_step (l : Launch) (ad : Nat → Nat) (cI cJ cZ : ClassId) {N : Nat} {x1 : Int32} {x2 : Int32} {x3 : Int32} {σ0 : St} {r : Int32} {τ : St} (hf : M_step N x1 x2 x3 σ0 = some (r, τ)) : CtI l yX8_step (gws (.code yX8_step cX8_step 10 (some .int))) (rm_M_step) (ty3 cI cJ cZ) (mw ad cI cZ) [.ref (ad 0), .int x1, .int x2, .int x3] σ0 r τ := by
  refine CtI.of (by decide) (mw_ok ad cI cZ) (Nat.le_of_ble_eq_true rfl) ?_
  generalize hav : ([.ref (ad 0), .int x1, .int x2, .int x3] : List Value) = av
  intro p e s m below meth c D A hC ls hl hP hS
  obtain ⟨hx, hb, hr, hlocks, hml, hown, hts, hK, hN, hD, hA⟩ := id hC
  rw [← hav] at hl
  have hl : lv_has ls 10 [(0, .ref (ad 0)), (1, .int x1), (2, .int x2), (3, .int x3)] := hl
  unfold M_step at hf
  have hw_50 : ∀ (k_38 : Int32 → Int32 → Int32 → Int32 → Int32 → St → Option (Int32 × St)) (hk_38 : ∀ (x3 : Int32) (x4 : Int32) (x5 : Int32) (x6 : Int32) (x7 : Int32) (σ : St) (H : Heap) (locs : List Loc) (ls : Array Slot), va_P D vwCl ((mw ad cI cZ) σ) H → va_S A s.heap H locs → lv_has ls 10 [(0, .ref (ad 0)), (3, .int x3), (4, .int x4), (5, .int x5), (6, .int x6), (7, .int x7)] → k_38 x3 x4 x5 x6 x7 σ = some (r, τ) → W p l e (rm_M_step) s m av.toArray below meth c H locs 0 0 (QI below av.toArray s D A (mw ad cI cZ) r τ) (F0 m 38 ls [])), ∀ (n : Nat), ∀ (x3 : Int32) (x4 : Int32) (x5 : Int32) (x6 : Int32) (x7 : Int32) (x8 : Int32) (σ : St) (H : Heap) (locs : List Loc) (ls : Array Slot), va_P D vwCl ((mw ad cI cZ) σ) H → va_S A s.heap H locs → lv_has ls 10 [(0, .ref (ad 0)), (3, .int x3), (4, .int x4), (5, .int x5), (6, .int x6), (7, .int x7), (8, .int x8)] → M_step_50 N k_38 n x3 x4 x5 x6 x7 x8 σ = some (r, τ) → W p l e (rm_M_step) s m av.toArray below meth c H locs 0 0 (QI below av.toArray s D A (mw ad cI cZ) r τ) (F0 m 50 ls []) := by
    intro k_38 hk_38
    intro n
    induction n with
    | zero =>
      intro x3 x4 x5 x6 x7 x8 σ H locs ls hP hS hl hf
      cases hf
    | succ n ih =>
      intro x3 x4 x5 x6 x7 x8 σ H locs ls hP hS hl hf
      rw [M_step_50_s] at hf
      refine lv_iload hx hb dX8_step_50 (lv_at hl 6 rfl) ?_
      refine lv_aload_n hx hb dX8_step_52 rfl (lv_at hl 0 rfl) ?_
      refine mg_0_1 hC hP tw_720 dX8_step_53 ?_
      refine lv_icmp_ge (tgt := 124) hx hb dX8_step_56 (by decide) (fun c1 => ?_) (fun c1 => ?_)
      · rw [if_pos c1] at hf
        refine lv_iinc (v := (x7 + 1)) (lv' := [(7, .int (x7 + 1)), (0, .ref (ad 0)), (3, .int x3), (4, .int x4), (5, .int x5), (6, .int x6), (8, .int x8)]) hx hb dX8_step_124 hl (k := 5) rfl rfl (by decide) rfl (fun ls hl => ?_)
        refine lv_goto (tgt := 38) hx hb dX8_step_127 (by decide) ?_
        exact hk_38 x3 x4 x5 x6 (x7 + 1) σ H locs ls hP hS (lv_sub hl [1, 2, 3, 4, 5, 0] rfl) hf
      rw [if_neg c1] at hf
      refine lv_aload_n hx hb dX8_step_59 rfl (lv_at hl 0 rfl) ?_
      refine lv_aload_n hx hb dX8_step_60 rfl (lv_at hl 0 rfl) ?_
      refine mg_0_22 hC hP tw_741 dX8_step_61 ?_
      refine lv_iload hx hb dX8_step_64 (lv_at hl 2 rfl) ?_
      obtain ⟨g2, hf⟩ := grd_some hf
      refine ml_12 hC hP g2 dX8_step_66 ?_
      refine lv_iload hx hb dX8_step_67 (lv_at hl 5 rfl) ?_
      refine lv_iload hx hb dX8_step_69 (lv_at hl 6 rfl) ?_
      obtain ⟨y3, hcy3, hf⟩ := bnd_some hf
      refine cVi (As := [.int (σ.2.1 11 (x4).toNatClampNeg), .int x7, .int x8]) (rest := []) hC (k_M_swapped l ad cI cJ cZ hcy3) yy_X8_swapped tw_956 rfl rfl ⟨by decide, by decide⟩ hP hS (q0 := 0) (ci := 8) rfl rfl (mwa_0 ..) rfl hl.1 rfl (Nat.le_of_ble_eq_true rfl) dX8_step_71 (fun H locs hP hS => ?_)
      refine lv_istore (lv' := [(9, .int y3), (0, .ref (ad 0)), (3, .int x3), (4, .int x4), (5, .int x5), (6, .int x6), (7, .int x7), (8, .int x8)]) hx hb dX8_step_74 hl (by decide) rfl (fun ls hl => ?_)
      refine lv_iload hx hb dX8_step_76 (lv_at hl 0 rfl) ?_
      refine lv_iconst (v := (-1)) hx hb dX8_step_78 (by decide) ?_
      refine lv_icmp_eq (tgt := 118) hx hb dX8_step_79 (by decide) (fun c4 => ?_) (fun c4 => ?_)
      · rw [if_pos c4] at hf
        refine lv_iinc (v := (x8 + 1)) (lv' := [(8, .int (x8 + 1)), (9, .int y3), (0, .ref (ad 0)), (3, .int x3), (4, .int x4), (5, .int x5), (6, .int x6), (7, .int x7)]) hx hb dX8_step_118 hl (k := 7) rfl rfl (by decide) rfl (fun ls hl => ?_)
        refine lv_goto (tgt := 50) hx hb dX8_step_121 (by decide) ?_
        exact ih x3 x4 x5 x6 x7 (x8 + 1) σ H locs ls hP hS (lv_sub hl [2, 3, 4, 5, 6, 7, 0] rfl) hf
      rw [if_neg c4] at hf
      refine lv_aload_n hx hb dX8_step_82 rfl (lv_at hl 1 rfl) ?_
      refine mg_0_28 hC hP tw_747 dX8_step_83 ?_
      refine lv_iload hx hb dX8_step_86 (lv_at hl 0 rfl) ?_
      obtain ⟨g5, hf⟩ := grd_some hf
      refine ml_18 hC hP g5 dX8_step_88 ?_
      refine lv_aload_n hx hb dX8_step_89 rfl (lv_at hl 1 rfl) ?_
      refine mg_0_28 hC hP tw_747 dX8_step_90 ?_
      refine lv_iload hx hb dX8_step_93 (lv_at hl 3 rfl) ?_
      obtain ⟨g6, hf⟩ := grd_some hf
      refine ml_18 hC hP g6 dX8_step_95 ?_
      refine lv_iconst (v := 1) hx hb dX8_step_96 (by decide) ?_
      refine lv_isub hx hb dX8_step_97 ?_
      refine lv_icmp_ne (tgt := 118) hx hb dX8_step_98 (by decide) (fun c7 => ?_) (fun c7 => ?_)
      · rw [if_neg c7] at hf
        refine lv_iinc (v := (x8 + 1)) (lv' := [(8, .int (x8 + 1)), (9, .int y3), (0, .ref (ad 0)), (3, .int x3), (4, .int x4), (5, .int x5), (6, .int x6), (7, .int x7)]) hx hb dX8_step_118 hl (k := 7) rfl rfl (by decide) rfl (fun ls hl => ?_)
        refine lv_goto (tgt := 50) hx hb dX8_step_121 (by decide) ?_
        exact ih x3 x4 x5 x6 x7 (x8 + 1) σ H locs ls hP hS (lv_sub hl [2, 3, 4, 5, 6, 7, 0] rfl) hf
      rw [if_pos c7] at hf
      refine lv_iload hx hb dX8_step_101 (lv_at hl 5 rfl) ?_
      refine lv_iconst (v := (-1)) hx hb dX8_step_103 (by decide) ?_
      refine lv_icmp_eq (tgt := 114) hx hb dX8_step_104 (by decide) (fun c8 => ?_) (fun c8 => ?_)
      · rw [if_pos c8] at hf
        refine lv_iload hx hb dX8_step_114 (lv_at hl 0 rfl) ?_
        refine lv_istore (lv' := [(6, .int y3), (9, .int y3), (0, .ref (ad 0)), (3, .int x3), (4, .int x4), (5, .int x5), (7, .int x7), (8, .int x8)]) hx hb dX8_step_116 hl (by decide) rfl (fun ls hl => ?_)
        refine lv_iinc (v := (x8 + 1)) (lv' := [(8, .int (x8 + 1)), (6, .int y3), (9, .int y3), (0, .ref (ad 0)), (3, .int x3), (4, .int x4), (5, .int x5), (7, .int x7)]) hx hb dX8_step_118 hl (k := 7) rfl rfl (by decide) rfl (fun ls hl => ?_)
        refine lv_goto (tgt := 50) hx hb dX8_step_121 (by decide) ?_
        exact ih x3 x4 x5 y3 x7 (x8 + 1) σ H locs ls hP hS (lv_sub hl [3, 4, 5, 6, 1, 7, 0] rfl) hf
      rw [if_neg c8] at hf
      refine lv_iload hx hb dX8_step_107 (lv_at hl 0 rfl) ?_
      refine lv_iload hx hb dX8_step_109 (lv_at hl 5 rfl) ?_
      refine lv_icmp_ge (tgt := 118) hx hb dX8_step_111 (by decide) (fun c9 => ?_) (fun c9 => ?_)
      · rw [if_pos c9] at hf
        refine lv_iinc (v := (x8 + 1)) (lv' := [(8, .int (x8 + 1)), (9, .int y3), (0, .ref (ad 0)), (3, .int x3), (4, .int x4), (5, .int x5), (6, .int x6), (7, .int x7)]) hx hb dX8_step_118 hl (k := 7) rfl rfl (by decide) rfl (fun ls hl => ?_)
        refine lv_goto (tgt := 50) hx hb dX8_step_121 (by decide) ?_
        exact ih x3 x4 x5 x6 x7 (x8 + 1) σ H locs ls hP hS (lv_sub hl [2, 3, 4, 5, 6, 7, 0] rfl) hf
      rw [if_neg c9] at hf
      refine lv_iload hx hb dX8_step_114 (lv_at hl 0 rfl) ?_
      refine lv_istore (lv' := [(6, .int y3), (9, .int y3), (0, .ref (ad 0)), (3, .int x3), (4, .int x4), (5, .int x5), (7, .int x7), (8, .int x8)]) hx hb dX8_step_116 hl (by decide) rfl (fun ls hl => ?_)
      refine lv_iinc (v := (x8 + 1)) (lv' := [(8, .int (x8 + 1)), (6, .int y3), (9, .int y3), (0, .ref (ad 0)), (3, .int x3), (4, .int x4), (5, .int x5), (7, .int x7)]) hx hb dX8_step_118 hl (k := 7) rfl rfl (by decide) rfl (fun ls hl => ?_)
      refine lv_goto (tgt := 50) hx hb dX8_step_121 (by decide) ?_
      exact ih x3 x4 x5 y3 x7 (x8 + 1) σ H locs ls hP hS (lv_sub hl [3, 4, 5, 6, 1, 7, 0] rfl) hf
  have hw_38 : ∀ (k_130 : Int32 → Int32 → Int32 → St → Option (Int32 × St)) (hk_130 : ∀ (x3 : Int32) (x5 : Int32) (x6 : Int32) (σ : St) (H : Heap) (locs : List Loc) (ls : Array Slot), va_P D vwCl ((mw ad cI cZ) σ) H → va_S A s.heap H locs → lv_has ls 10 [(0, .ref (ad 0)), (3, .int x3), (5, .int x5), (6, .int x6)] → k_130 x3 x5 x6 σ = some (r, τ) → W p l e (rm_M_step) s m av.toArray below meth c H locs 0 0 (QI below av.toArray s D A (mw ad cI cZ) r τ) (F0 m 130 ls [])), ∀ (n : Nat), ∀ (x3 : Int32) (x4 : Int32) (x5 : Int32) (x6 : Int32) (x7 : Int32) (σ : St) (H : Heap) (locs : List Loc) (ls : Array Slot), va_P D vwCl ((mw ad cI cZ) σ) H → va_S A s.heap H locs → lv_has ls 10 [(0, .ref (ad 0)), (3, .int x3), (4, .int x4), (5, .int x5), (6, .int x6), (7, .int x7)] → M_step_38 N k_130 n x3 x4 x5 x6 x7 σ = some (r, τ) → W p l e (rm_M_step) s m av.toArray below meth c H locs 0 0 (QI below av.toArray s D A (mw ad cI cZ) r τ) (F0 m 38 ls []) := by
    intro k_130 hk_130
    intro n
    induction n with
    | zero =>
      intro x3 x4 x5 x6 x7 σ H locs ls hP hS hl hf
      cases hf
    | succ n ih =>
      intro x3 x4 x5 x6 x7 σ H locs ls hP hS hl hf
      rw [M_step_38_s] at hf
      refine lv_iload hx hb dX8_step_38 (lv_at hl 5 rfl) ?_
      refine lv_aload_n hx hb dX8_step_40 rfl (lv_at hl 0 rfl) ?_
      refine mg_0_1 hC hP tw_720 dX8_step_41 ?_
      refine lv_icmp_ge (tgt := 130) hx hb dX8_step_44 (by decide) (fun c10 => ?_) (fun c10 => ?_)
      · rw [if_pos c10] at hf
        exact hk_130 x3 x5 x6 σ H locs ls hP hS (lv_sub hl [0, 1, 3, 4] rfl) hf
      rw [if_neg c10] at hf
      refine lv_iconst (v := 0) hx hb dX8_step_47 (by decide) ?_
      refine lv_istore (lv' := [(8, .int 0), (0, .ref (ad 0)), (3, .int x3), (4, .int x4), (5, .int x5), (6, .int x6), (7, .int x7)]) hx hb dX8_step_48 hl (by decide) rfl (fun ls hl => ?_)
      exact hw_50 (M_step_38 N k_130 n) ih N x3 x4 x5 x6 x7 0 σ H locs ls hP hS (lv_sub hl [1, 2, 3, 4, 5, 6, 0] rfl) hf
  have hw_130 : ∀ (k_26 : Int32 → Int32 → Int32 → St → Option (Int32 × St)) (hk_26 : ∀ (x3 : Int32) (x4 : Int32) (x5 : Int32) (σ : St) (H : Heap) (locs : List Loc) (ls : Array Slot), va_P D vwCl ((mw ad cI cZ) σ) H → va_S A s.heap H locs → lv_has ls 10 [(0, .ref (ad 0)), (3, .int x3), (4, .int x4), (5, .int x5)] → k_26 x3 x4 x5 σ = some (r, τ) → W p l e (rm_M_step) s m av.toArray below meth c H locs 0 0 (QI below av.toArray s D A (mw ad cI cZ) r τ) (F0 m 26 ls [])), ∀ (x3 : Int32) (x5 : Int32) (x6 : Int32) (σ : St) (H : Heap) (locs : List Loc) (ls : Array Slot), va_P D vwCl ((mw ad cI cZ) σ) H → va_S A s.heap H locs → lv_has ls 10 [(0, .ref (ad 0)), (3, .int x3), (5, .int x5), (6, .int x6)] → M_step_130 N k_26 x3 x5 x6 σ = some (r, τ) → W p l e (rm_M_step) s m av.toArray below meth c H locs 0 0 (QI below av.toArray s D A (mw ad cI cZ) r τ) (F0 m 130 ls []) := by
    intro k_26 hk_26 x3 x5 x6 σ H locs ls hP hS hl hf
    unfold M_step_130 at hf
    refine lv_iload hx hb dX8_step_130 (lv_at hl 3 rfl) ?_
    refine lv_istore (lv' := [(4, .int x6), (0, .ref (ad 0)), (3, .int x3), (5, .int x5), (6, .int x6)]) hx hb dX8_step_132 hl (by decide) rfl (fun ls hl => ?_)
    refine lv_iinc (v := (x5 + 1)) (lv' := [(5, .int (x5 + 1)), (4, .int x6), (0, .ref (ad 0)), (3, .int x3), (6, .int x6)]) hx hb dX8_step_134 hl (k := 3) rfl rfl (by decide) rfl (fun ls hl => ?_)
    refine lv_goto (tgt := 26) hx hb dX8_step_137 (by decide) ?_
    exact hk_26 x3 x6 (x5 + 1) σ H locs ls hP hS (lv_sub hl [2, 3, 1, 0] rfl) hf
  have hw_26 : ∀ (k_140 : Int32 → St → Option (Int32 × St)) (hk_140 : ∀ (x4 : Int32) (σ : St) (H : Heap) (locs : List Loc) (ls : Array Slot), va_P D vwCl ((mw ad cI cZ) σ) H → va_S A s.heap H locs → lv_has ls 10 [(0, .ref (ad 0)), (4, .int x4)] → k_140 x4 σ = some (r, τ) → W p l e (rm_M_step) s m av.toArray below meth c H locs 0 0 (QI below av.toArray s D A (mw ad cI cZ) r τ) (F0 m 140 ls [])), ∀ (n : Nat), ∀ (x3 : Int32) (x4 : Int32) (x5 : Int32) (σ : St) (H : Heap) (locs : List Loc) (ls : Array Slot), va_P D vwCl ((mw ad cI cZ) σ) H → va_S A s.heap H locs → lv_has ls 10 [(0, .ref (ad 0)), (3, .int x3), (4, .int x4), (5, .int x5)] → M_step_26 N k_140 n x3 x4 x5 σ = some (r, τ) → W p l e (rm_M_step) s m av.toArray below meth c H locs 0 0 (QI below av.toArray s D A (mw ad cI cZ) r τ) (F0 m 26 ls []) := by
    intro k_140 hk_140
    intro n
    induction n with
    | zero =>
      intro x3 x4 x5 σ H locs ls hP hS hl hf
      cases hf
    | succ n ih =>
      intro x3 x4 x5 σ H locs ls hP hS hl hf
      rw [M_step_26_s] at hf
      refine lv_iload hx hb dX8_step_26 (lv_at hl 3 rfl) ?_
      refine lv_iload_n hx hb dX8_step_28 rfl (lv_at hl 1 rfl) ?_
      refine lv_icmp_ge (tgt := 140) hx hb dX8_step_29 (by decide) (fun c11 => ?_) (fun c11 => ?_)
      · rw [if_pos c11] at hf
        exact hk_140 x4 σ H locs ls hP hS (lv_sub hl [0, 2] rfl) hf
      rw [if_neg c11] at hf
      refine lv_iconst (v := (-1)) hx hb dX8_step_32 (by decide) ?_
      refine lv_istore (lv' := [(6, .int (-1)), (0, .ref (ad 0)), (3, .int x3), (4, .int x4), (5, .int x5)]) hx hb dX8_step_33 hl (by decide) rfl (fun ls hl => ?_)
      refine lv_iconst (v := 0) hx hb dX8_step_35 (by decide) ?_
      refine lv_istore (lv' := [(7, .int 0), (6, .int (-1)), (0, .ref (ad 0)), (3, .int x3), (4, .int x4), (5, .int x5)]) hx hb dX8_step_36 hl (by decide) rfl (fun ls hl => ?_)
      exact hw_38 (M_step_130 N (M_step_26 N k_140 n)) (hw_130 (M_step_26 N k_140 n) ih) N x3 x4 x5 (-1) 0 σ H locs ls hP hS (lv_sub hl [2, 3, 4, 5, 1, 0] rfl) hf
  have hw_140 : ∀ (x4 : Int32) (σ : St) (H : Heap) (locs : List Loc) (ls : Array Slot), va_P D vwCl ((mw ad cI cZ) σ) H → va_S A s.heap H locs → lv_has ls 10 [(0, .ref (ad 0)), (4, .int x4)] → M_step_140 N x4 σ = some (r, τ) → W p l e (rm_M_step) s m av.toArray below meth c H locs 0 0 (QI below av.toArray s D A (mw ad cI cZ) r τ) (F0 m 140 ls []) := by
    intro x4 σ H locs ls hP hS hl hf
    unfold M_step_140 at hf
    refine lv_aload_n hx hb dX8_step_140 rfl (lv_at hl 0 rfl) ?_
    refine mg_0_22 hC hP tw_741 dX8_step_141 ?_
    refine lv_iload hx hb dX8_step_144 (lv_at hl 1 rfl) ?_
    obtain ⟨g12, hf⟩ := grd_some hf
    refine ml_12 hC hP g12 dX8_step_146 ?_
    obtain ⟨h1, h2⟩ := ret2 hf
    exact retI hx hb hr hlocks hP hS h1 h2 dX8_step_147
  obtain ⟨H, hH⟩ : ∃ z, z = s.heap := ⟨_, rfl⟩
  obtain ⟨locs, hlocs⟩ : ∃ z : List Loc, z = [] := ⟨_, rfl⟩
  rw [← hH] at hP
  have hS : va_S A s.heap H locs := by rw [hH, hlocs]; exact va_S.rf
  suffices hgoal : W p l e _ s m _ below meth c H locs 0 0 _ _ by rw [hH, hlocs] at hgoal; exact hgoal
  refine lv_iload_n hx hb dX8_step_0 rfl (lv_at hl 3 rfl) ?_
  refine lv_iconst (v := 0) hx hb dX8_step_1 (by decide) ?_
  refine lv_aload_n hx hb dX8_step_2 rfl (lv_at hl 0 rfl) ?_
  refine lv_iload_n hx hb dX8_step_3 rfl (lv_at hl 1 rfl) ?_
  refine lv_iload_n hx hb dX8_step_4 rfl (lv_at hl 2 rfl) ?_
  obtain ⟨y13, σ14, hcy13, hf⟩ := bnd2_some hf
  refine cVi (As := [.int x1, .int x2]) (rest := [.int 0, .int x3]) hC (k_M_swaps l ad cI cJ cZ hcy13) yy_X8_swaps tw_964 rfl rfl ⟨by decide, by decide⟩ hP hS (q0 := 0) (ci := 8) rfl rfl (mwa_0 ..) rfl hl.1 rfl (Nat.le_of_ble_eq_true rfl) dX8_step_5 (fun H locs hP hS => ?_)
  refine cSi (As := [.int x3, .int 0, .int y13]) (rest := []) hC (k_M_lies l (mw ad cI cZ) (mw_ok ad cI cZ) (ty3 cI cJ cZ) _ rfl) yy_X8_lies tw_815 rfl rfl ⟨by decide, by decide⟩ hP hS rfl hl.1 rfl (Nat.le_of_ble_eq_true rfl) dX8_step_8 (fun H locs hP hS => ?_)
  refine lv_if_ne (tgt := 16) hx hb dX8_step_11 (by decide) (fun c15 => ?_) (fun c15 => ?_)
  · rw [if_neg c15] at hf
    refine lv_aload_n hx hb dX8_step_16 rfl (lv_at hl 0 rfl) ?_
    refine lv_iload_n hx hb dX8_step_17 rfl (lv_at hl 1 rfl) ?_
    obtain ⟨y16, σ17, hcy16, hf⟩ := bnd2_some hf
    refine cVi (As := [.int x1]) (rest := []) hC (k_M_goodOf l ad cI cJ cZ hcy16) yy_X8_goodOf tw_948 rfl rfl ⟨by decide, by decide⟩ hP hS (q0 := 0) (ci := 8) rfl rfl (mwa_0 ..) rfl hl.1 rfl (Nat.le_of_ble_eq_true rfl) dX8_step_18 (fun H locs hP hS => ?_)
    refine lv_istore (lv' := [(4, .int y16), (0, .ref (ad 0)), (1, .int x1), (2, .int x2), (3, .int x3)]) hx hb dX8_step_21 hl (by decide) rfl (fun ls hl => ?_)
    refine lv_iconst (v := 0) hx hb dX8_step_23 (by decide) ?_
    refine lv_istore (lv' := [(5, .int 0), (4, .int y16), (0, .ref (ad 0)), (1, .int x1), (2, .int x2), (3, .int x3)]) hx hb dX8_step_24 hl (by decide) rfl (fun ls hl => ?_)
    exact hw_26 (M_step_140 N) hw_140 N x3 y16 0 σ17 H locs ls hP hS (lv_sub hl [2, 5, 1, 0] rfl) hf
  rw [if_pos c15] at hf
  refine lv_iconst (v := (-1)) hx hb dX8_step_14 (by decide) ?_
  obtain ⟨h1, h2⟩ := ret2 hf
  exact retI hx hb hr hlocks hP hS h1 h2 dX8_step_15
theorem dX8_look_0 : decode cX8_look 0 = .ok (.aload_n 0, 1) := by decide +kernel
theorem dX8_look_1 : decode cX8_look 1 = .ok (.iload_n 1, 1) := by decide +kernel
theorem dX8_look_2 : decode cX8_look 2 = .ok (.invokevirtual 108, 3) := by decide +kernel
theorem dX8_look_5 : decode cX8_look 5 = .ok (.ifCond .ne 5, 3) := by decide +kernel
theorem dX8_look_8 : decode cX8_look 8 = .ok (.iconst (-1), 1) := by decide +kernel
theorem dX8_look_9 : decode cX8_look 9 = .ok (.ireturn, 1) := by decide +kernel
theorem dX8_look_10 : decode cX8_look 10 = .ok (.iload_n 2, 1) := by decide +kernel
theorem dX8_look_11 : decode cX8_look 11 = .ok (.tableswitch 76 0 4 #[33, 40, 47, 54, 61], 33) := by decide +kernel
theorem dX8_look_44 : decode cX8_look 44 = .ok (.aload_n 0, 1) := by decide +kernel
theorem dX8_look_45 : decode cX8_look 45 = .ok (.getfield 25, 3) := by decide +kernel
theorem dX8_look_48 : decode cX8_look 48 = .ok (.iload_n 1, 1) := by decide +kernel
theorem dX8_look_49 : decode cX8_look 49 = .ok (.iaload, 1) := by decide +kernel
theorem dX8_look_50 : decode cX8_look 50 = .ok (.ireturn, 1) := by decide +kernel
theorem dX8_look_51 : decode cX8_look 51 = .ok (.aload_n 0, 1) := by decide +kernel
theorem dX8_look_52 : decode cX8_look 52 = .ok (.getfield 29, 3) := by decide +kernel
theorem dX8_look_55 : decode cX8_look 55 = .ok (.iload_n 1, 1) := by decide +kernel
theorem dX8_look_56 : decode cX8_look 56 = .ok (.iaload, 1) := by decide +kernel
theorem dX8_look_57 : decode cX8_look 57 = .ok (.ireturn, 1) := by decide +kernel
theorem dX8_look_58 : decode cX8_look 58 = .ok (.aload_n 0, 1) := by decide +kernel
theorem dX8_look_59 : decode cX8_look 59 = .ok (.getfield 32, 3) := by decide +kernel
theorem dX8_look_62 : decode cX8_look 62 = .ok (.iload_n 1, 1) := by decide +kernel
theorem dX8_look_63 : decode cX8_look 63 = .ok (.iaload, 1) := by decide +kernel
theorem dX8_look_64 : decode cX8_look 64 = .ok (.ireturn, 1) := by decide +kernel
theorem dX8_look_65 : decode cX8_look 65 = .ok (.aload_n 0, 1) := by decide +kernel
theorem dX8_look_66 : decode cX8_look 66 = .ok (.getfield 35, 3) := by decide +kernel
theorem dX8_look_69 : decode cX8_look 69 = .ok (.iload_n 1, 1) := by decide +kernel
theorem dX8_look_70 : decode cX8_look 70 = .ok (.iaload, 1) := by decide +kernel
theorem dX8_look_71 : decode cX8_look 71 = .ok (.ireturn, 1) := by decide +kernel
theorem dX8_look_72 : decode cX8_look 72 = .ok (.aload_n 0, 1) := by decide +kernel
theorem dX8_look_73 : decode cX8_look 73 = .ok (.getfield 38, 3) := by decide +kernel
theorem dX8_look_76 : decode cX8_look 76 = .ok (.iload_n 1, 1) := by decide +kernel
theorem dX8_look_77 : decode cX8_look 77 = .ok (.baload, 1) := by decide +kernel
theorem dX8_look_78 : decode cX8_look 78 = .ok (.ifCond .eq 7, 3) := by decide +kernel
theorem dX8_look_81 : decode cX8_look 81 = .ok (.iconst 1, 1) := by decide +kernel
theorem dX8_look_82 : decode cX8_look 82 = .ok (.goto 4, 3) := by decide +kernel
theorem dX8_look_85 : decode cX8_look 85 = .ok (.iconst 0, 1) := by decide +kernel
theorem dX8_look_86 : decode cX8_look 86 = .ok (.ireturn, 1) := by decide +kernel
theorem dX8_look_87 : decode cX8_look 87 = .ok (.iconst (-1), 1) := by decide +kernel
theorem dX8_look_88 : decode cX8_look 88 = .ok (.ireturn, 1) := by decide +kernel
def M_look (N : Nat) (x1 : Int32) (x2 : Int32) (σ0 : St) : Option (Int32) := if (M_isLine x1 σ0) = 0 then some (-1) else if x2 = 0 then grd (inb x1 14) (some (σ0.2.1 0 (x1).toNatClampNeg)) else (if x2 = 1 then grd (inb x1 14) (some (σ0.2.1 1 (x1).toNatClampNeg)) else (if x2 = 2 then grd (inb x1 14) (some (σ0.2.1 2 (x1).toNatClampNeg)) else (if x2 = 3 then grd (inb x1 14) (some (σ0.2.1 3 (x1).toNatClampNeg)) else (if x2 = 4 then grd (inb x1 14) (if (σ0.2.1 4 (x1).toNatClampNeg) = 0 then some 0 else some 1) else (some (-1))))))
abbrev rm_M_look : Room := { frames := 2, cells := 0, slots := 0, locals := 43 }
set_option maxHeartbeats 4000000 in
set_option maxRecDepth 100000 in
theorem k_M_look (l : Launch) (ad : Nat → Nat) (cI cJ cZ : ClassId) {N : Nat} {x1 : Int32} {x2 : Int32} {σ0 : St} {r : Int32} (hf : M_look N x1 x2 σ0 = some r) : CtI l yX8_look (gws (.code yX8_look cX8_look 3 (some .int))) (rm_M_look) (ty3 cI cJ cZ) (mw ad cI cZ) [.ref (ad 0), .int x1, .int x2] σ0 r σ0 := by
  refine CtI.of (by decide) (mw_ok ad cI cZ) (Nat.le_of_ble_eq_true rfl) ?_
  generalize hav : ([.ref (ad 0), .int x1, .int x2] : List Value) = av
  intro p e s m below meth c D A hC ls hl hP hS
  obtain ⟨hx, hb, hr, hlocks, hml, hown, hts, hK, hN, hD, hA⟩ := id hC
  rw [← hav] at hl
  have hl : lv_has ls 3 [(0, .ref (ad 0)), (1, .int x1), (2, .int x2)] := hl
  unfold M_look at hf
  obtain ⟨H, hH⟩ : ∃ z, z = s.heap := ⟨_, rfl⟩
  obtain ⟨locs, hlocs⟩ : ∃ z : List Loc, z = [] := ⟨_, rfl⟩
  rw [← hH] at hP
  have hS : va_S A s.heap H locs := by rw [hH, hlocs]; exact va_S.rf
  suffices hgoal : W p l e _ s m _ below meth c H locs 0 0 _ _ by rw [hH, hlocs] at hgoal; exact hgoal
  refine lv_aload_n hx hb dX8_look_0 rfl (lv_at hl 0 rfl) ?_
  refine lv_iload_n hx hb dX8_look_1 rfl (lv_at hl 1 rfl) ?_
  refine cVi (As := [.int x1]) (rest := []) hC (k_M_isLine l ad cI cJ cZ rfl) yy_X8_isLine tw_830 rfl rfl ⟨by decide, by decide⟩ hP hS (q0 := 0) (ci := 8) rfl rfl (mwa_0 ..) rfl hl.1 rfl (Nat.le_of_ble_eq_true rfl) dX8_look_2 (fun H locs hP hS => ?_)
  refine lv_if_ne (tgt := 10) hx hb dX8_look_5 (by decide) (fun c1 => ?_) (fun c1 => ?_)
  · rw [if_neg c1] at hf
    refine lv_iload_n hx hb dX8_look_10 rfl (lv_at hl 2 rfl) ?_
    by_cases c2 : x2 = 0
    · rw [if_pos c2] at hf
      refine lv_tableIn (tgt := 44) hx hb dX8_look_11 (by rw [c2]; decide) (by rw [c2]; decide) (by rw [c2]; rfl) (by decide) ?_
      refine lv_aload_n hx hb dX8_look_44 rfl (lv_at hl 0 rfl) ?_
      refine mg_0_8 hC hP tw_727 dX8_look_45 ?_
      refine lv_iload_n hx hb dX8_look_48 rfl (lv_at hl 1 rfl) ?_
      obtain ⟨g3, hf⟩ := grd_some hf
      refine ml_1 hC hP g3 dX8_look_49 ?_
      have h1 := Option.some.inj hf
      exact retI hx hb hr hlocks hP hS h1 rfl dX8_look_50
    rw [if_neg c2] at hf
    by_cases c4 : x2 = 1
    · rw [if_pos c4] at hf
      refine lv_tableIn (tgt := 51) hx hb dX8_look_11 (by rw [c4]; decide) (by rw [c4]; decide) (by rw [c4]; rfl) (by decide) ?_
      refine lv_aload_n hx hb dX8_look_51 rfl (lv_at hl 0 rfl) ?_
      refine mg_0_9 hC hP tw_728 dX8_look_52 ?_
      refine lv_iload_n hx hb dX8_look_55 rfl (lv_at hl 1 rfl) ?_
      obtain ⟨g5, hf⟩ := grd_some hf
      refine ml_2 hC hP g5 dX8_look_56 ?_
      have h1 := Option.some.inj hf
      exact retI hx hb hr hlocks hP hS h1 rfl dX8_look_57
    rw [if_neg c4] at hf
    by_cases c6 : x2 = 2
    · rw [if_pos c6] at hf
      refine lv_tableIn (tgt := 58) hx hb dX8_look_11 (by rw [c6]; decide) (by rw [c6]; decide) (by rw [c6]; rfl) (by decide) ?_
      refine lv_aload_n hx hb dX8_look_58 rfl (lv_at hl 0 rfl) ?_
      refine mg_0_10 hC hP tw_729 dX8_look_59 ?_
      refine lv_iload_n hx hb dX8_look_62 rfl (lv_at hl 1 rfl) ?_
      obtain ⟨g7, hf⟩ := grd_some hf
      refine ml_3 hC hP g7 dX8_look_63 ?_
      have h1 := Option.some.inj hf
      exact retI hx hb hr hlocks hP hS h1 rfl dX8_look_64
    rw [if_neg c6] at hf
    by_cases c8 : x2 = 3
    · rw [if_pos c8] at hf
      refine lv_tableIn (tgt := 65) hx hb dX8_look_11 (by rw [c8]; decide) (by rw [c8]; decide) (by rw [c8]; rfl) (by decide) ?_
      refine lv_aload_n hx hb dX8_look_65 rfl (lv_at hl 0 rfl) ?_
      refine mg_0_11 hC hP tw_730 dX8_look_66 ?_
      refine lv_iload_n hx hb dX8_look_69 rfl (lv_at hl 1 rfl) ?_
      obtain ⟨g9, hf⟩ := grd_some hf
      refine ml_4 hC hP g9 dX8_look_70 ?_
      have h1 := Option.some.inj hf
      exact retI hx hb hr hlocks hP hS h1 rfl dX8_look_71
    rw [if_neg c8] at hf
    by_cases c10 : x2 = 4
    · rw [if_pos c10] at hf
      refine lv_tableIn (tgt := 72) hx hb dX8_look_11 (by rw [c10]; decide) (by rw [c10]; decide) (by rw [c10]; rfl) (by decide) ?_
      refine lv_aload_n hx hb dX8_look_72 rfl (lv_at hl 0 rfl) ?_
      refine mg_0_12 hC hP tw_731 dX8_look_73 ?_
      refine lv_iload_n hx hb dX8_look_76 rfl (lv_at hl 1 rfl) ?_
      obtain ⟨g11, hf⟩ := grd_some hf
      refine ml_5 hC hP g11 dX8_look_77 ?_
      refine lv_if_eq (tgt := 85) hx hb dX8_look_78 (by decide) (fun c12 => ?_) (fun c12 => ?_)
      · rw [if_pos c12] at hf
        refine lv_iconst (v := 0) hx hb dX8_look_85 (by decide) ?_
        have h1 := Option.some.inj hf
        exact retI hx hb hr hlocks hP hS h1 rfl dX8_look_86
      rw [if_neg c12] at hf
      refine lv_iconst (v := 1) hx hb dX8_look_81 (by decide) ?_
      refine lv_goto (tgt := 86) hx hb dX8_look_82 (by decide) ?_
      have h1 := Option.some.inj hf
      exact retI hx hb hr hlocks hP hS h1 rfl dX8_look_86
    rw [if_neg c10] at hf
    refine lv_tableOut (tgt := 87) hx hb dX8_look_11 (sw_out5 c2 c4 c6 c8 c10) (by decide) ?_
    refine lv_iconst (v := (-1)) hx hb dX8_look_87 (by decide) ?_
    have h1 := Option.some.inj hf
    exact retI hx hb hr hlocks hP hS h1 rfl dX8_look_88
  rw [if_pos c1] at hf
  refine lv_iconst (v := (-1)) hx hb dX8_look_8 (by decide) ?_
  have h1 := Option.some.inj hf
  exact retI hx hb hr hlocks hP hS h1 rfl dX8_look_9
theorem dX8_count_0 : decode cX8_count 0 = .ok (.aload_n 0, 1) := by decide +kernel
theorem dX8_count_1 : decode cX8_count 1 = .ok (.iload_n 1, 1) := by decide +kernel
theorem dX8_count_2 : decode cX8_count 2 = .ok (.bipush 20, 2) := by decide +kernel
theorem dX8_count_4 : decode cX8_count 4 = .ok (.isub, 1) := by decide +kernel
theorem dX8_count_5 : decode cX8_count 5 = .ok (.invokevirtual 104, 3) := by decide +kernel
theorem dX8_count_8 : decode cX8_count 8 = .ok (.ifCond .eq 13, 3) := by decide +kernel
theorem dX8_count_11 : decode cX8_count 11 = .ok (.aload_n 0, 1) := by decide +kernel
theorem dX8_count_12 : decode cX8_count 12 = .ok (.getfield 42, 3) := by decide +kernel
theorem dX8_count_15 : decode cX8_count 15 = .ok (.iload_n 1, 1) := by decide +kernel
theorem dX8_count_16 : decode cX8_count 16 = .ok (.bipush 20, 2) := by decide +kernel
theorem dX8_count_18 : decode cX8_count 18 = .ok (.isub, 1) := by decide +kernel
theorem dX8_count_19 : decode cX8_count 19 = .ok (.iaload, 1) := by decide +kernel
theorem dX8_count_20 : decode cX8_count 20 = .ok (.ireturn, 1) := by decide +kernel
theorem dX8_count_21 : decode cX8_count 21 = .ok (.aload_n 0, 1) := by decide +kernel
theorem dX8_count_22 : decode cX8_count 22 = .ok (.iload_n 1, 1) := by decide +kernel
theorem dX8_count_23 : decode cX8_count 23 = .ok (.bipush 30, 2) := by decide +kernel
theorem dX8_count_25 : decode cX8_count 25 = .ok (.isub, 1) := by decide +kernel
theorem dX8_count_26 : decode cX8_count 26 = .ok (.invokevirtual 104, 3) := by decide +kernel
theorem dX8_count_29 : decode cX8_count 29 = .ok (.ifCond .eq 13, 3) := by decide +kernel
theorem dX8_count_32 : decode cX8_count 32 = .ok (.aload_n 0, 1) := by decide +kernel
theorem dX8_count_33 : decode cX8_count 33 = .ok (.getfield 45, 3) := by decide +kernel
theorem dX8_count_36 : decode cX8_count 36 = .ok (.iload_n 1, 1) := by decide +kernel
theorem dX8_count_37 : decode cX8_count 37 = .ok (.bipush 30, 2) := by decide +kernel
theorem dX8_count_39 : decode cX8_count 39 = .ok (.isub, 1) := by decide +kernel
theorem dX8_count_40 : decode cX8_count 40 = .ok (.iaload, 1) := by decide +kernel
theorem dX8_count_41 : decode cX8_count 41 = .ok (.ireturn, 1) := by decide +kernel
theorem dX8_count_42 : decode cX8_count 42 = .ok (.iconst 0, 1) := by decide +kernel
theorem dX8_count_43 : decode cX8_count 43 = .ok (.istore_n 2, 1) := by decide +kernel
theorem dX8_count_44 : decode cX8_count 44 = .ok (.iload_n 1, 1) := by decide +kernel
theorem dX8_count_45 : decode cX8_count 45 = .ok (.tableswitch 139 0 9 #[55, 60, 65, 100, 105, 110, 115, 120, 125, 130], 55) := by decide +kernel
theorem dX8_count_100 : decode cX8_count 100 = .ok (.aload_n 0, 1) := by decide +kernel
theorem dX8_count_101 : decode cX8_count 101 = .ok (.getfield 7, 3) := by decide +kernel
theorem dX8_count_104 : decode cX8_count 104 = .ok (.ireturn, 1) := by decide +kernel
theorem dX8_count_105 : decode cX8_count 105 = .ok (.aload_n 0, 1) := by decide +kernel
theorem dX8_count_106 : decode cX8_count 106 = .ok (.getfield 87, 3) := by decide +kernel
theorem dX8_count_109 : decode cX8_count 109 = .ok (.ireturn, 1) := by decide +kernel
theorem dX8_count_110 : decode cX8_count 110 = .ok (.iconst 0, 1) := by decide +kernel
theorem dX8_count_111 : decode cX8_count 111 = .ok (.istore_n 3, 1) := by decide +kernel
theorem dX8_count_112 : decode cX8_count 112 = .ok (.iload_n 3, 1) := by decide +kernel
theorem dX8_count_113 : decode cX8_count 113 = .ok (.aload_n 0, 1) := by decide +kernel
theorem dX8_count_114 : decode cX8_count 114 = .ok (.getfield 87, 3) := by decide +kernel
theorem dX8_count_117 : decode cX8_count 117 = .ok (.if_icmp .ge 26, 3) := by decide +kernel
theorem dX8_count_120 : decode cX8_count 120 = .ok (.iload_n 2, 1) := by decide +kernel
theorem dX8_count_121 : decode cX8_count 121 = .ok (.aload_n 0, 1) := by decide +kernel
theorem dX8_count_122 : decode cX8_count 122 = .ok (.getfield 38, 3) := by decide +kernel
theorem dX8_count_125 : decode cX8_count 125 = .ok (.iload_n 3, 1) := by decide +kernel
theorem dX8_count_126 : decode cX8_count 126 = .ok (.baload, 1) := by decide +kernel
theorem dX8_count_127 : decode cX8_count 127 = .ok (.ifCond .eq 7, 3) := by decide +kernel
theorem dX8_count_130 : decode cX8_count 130 = .ok (.iconst 0, 1) := by decide +kernel
theorem dX8_count_131 : decode cX8_count 131 = .ok (.goto 4, 3) := by decide +kernel
theorem dX8_count_134 : decode cX8_count 134 = .ok (.iconst 1, 1) := by decide +kernel
theorem dX8_count_135 : decode cX8_count 135 = .ok (.iadd, 1) := by decide +kernel
theorem dX8_count_136 : decode cX8_count 136 = .ok (.istore_n 2, 1) := by decide +kernel
theorem dX8_count_137 : decode cX8_count 137 = .ok (.iinc 3 1, 3) := by decide +kernel
theorem dX8_count_140 : decode cX8_count 140 = .ok (.goto (-28), 3) := by decide +kernel
theorem dX8_count_143 : decode cX8_count 143 = .ok (.iload_n 2, 1) := by decide +kernel
theorem dX8_count_144 : decode cX8_count 144 = .ok (.ireturn, 1) := by decide +kernel
theorem dX8_count_145 : decode cX8_count 145 = .ok (.aload_n 0, 1) := by decide +kernel
theorem dX8_count_146 : decode cX8_count 146 = .ok (.getfield 90, 3) := by decide +kernel
theorem dX8_count_149 : decode cX8_count 149 = .ok (.ireturn, 1) := by decide +kernel
theorem dX8_count_150 : decode cX8_count 150 = .ok (.aload_n 0, 1) := by decide +kernel
theorem dX8_count_151 : decode cX8_count 151 = .ok (.getfield 13, 3) := by decide +kernel
theorem dX8_count_154 : decode cX8_count 154 = .ok (.ireturn, 1) := by decide +kernel
theorem dX8_count_155 : decode cX8_count 155 = .ok (.aload_n 0, 1) := by decide +kernel
theorem dX8_count_156 : decode cX8_count 156 = .ok (.getfield 16, 3) := by decide +kernel
theorem dX8_count_159 : decode cX8_count 159 = .ok (.ireturn, 1) := by decide +kernel
theorem dX8_count_160 : decode cX8_count 160 = .ok (.aload_n 0, 1) := by decide +kernel
theorem dX8_count_161 : decode cX8_count 161 = .ok (.getfield 93, 3) := by decide +kernel
theorem dX8_count_164 : decode cX8_count 164 = .ok (.ireturn, 1) := by decide +kernel
theorem dX8_count_165 : decode cX8_count 165 = .ok (.aload_n 0, 1) := by decide +kernel
theorem dX8_count_166 : decode cX8_count 166 = .ok (.getfield 19, 3) := by decide +kernel
theorem dX8_count_169 : decode cX8_count 169 = .ok (.ireturn, 1) := by decide +kernel
theorem dX8_count_170 : decode cX8_count 170 = .ok (.aload_n 0, 1) := by decide +kernel
theorem dX8_count_171 : decode cX8_count 171 = .ok (.getfield 22, 3) := by decide +kernel
theorem dX8_count_174 : decode cX8_count 174 = .ok (.ireturn, 1) := by decide +kernel
theorem dX8_count_175 : decode cX8_count 175 = .ok (.aload_n 0, 1) := by decide +kernel
theorem dX8_count_176 : decode cX8_count 176 = .ok (.invokevirtual 148, 3) := by decide +kernel
theorem dX8_count_179 : decode cX8_count 179 = .ok (.aload_n 0, 1) := by decide +kernel
theorem dX8_count_180 : decode cX8_count 180 = .ok (.getfield 139, 3) := by decide +kernel
theorem dX8_count_183 : decode cX8_count 183 = .ok (.ireturn, 1) := by decide +kernel
theorem dX8_count_184 : decode cX8_count 184 = .ok (.iconst (-1), 1) := by decide +kernel
theorem dX8_count_185 : decode cX8_count 185 = .ok (.ireturn, 1) := by decide +kernel
def M_count_112 (N : Nat) : Nat → Int32 → Int32 → St → Option (Int32 × St)
  | 0, _, _, _ => none
  | n + 1, x2, x3, σ => if (σ.1 1) ≤ x3 then some (x2, σ) else grd (inb x3 14) (if (σ.2.1 4 (x3).toNatClampNeg) = 0 then M_count_112 N n (x2 + 1) (x3 + 1) σ else M_count_112 N n (x2 + 0) (x3 + 1) σ)
theorem M_count_112_s (N : Nat) (n : Nat) (x2 : Int32) (x3 : Int32) (σ : St) : M_count_112 N (n + 1) x2 x3 σ = if (σ.1 1) ≤ x3 then some (x2, σ) else grd (inb x3 14) (if (σ.2.1 4 (x3).toNatClampNeg) = 0 then M_count_112 N n (x2 + 1) (x3 + 1) σ else M_count_112 N n (x2 + 0) (x3 + 1) σ) := rfl
def M_count (N : Nat) (x1 : Int32) (σ0 : St) : Option (Int32 × St) := if (M_isPost (x1 - 20) σ0) = 0 then if (M_isPost (x1 - 30) σ0) = 0 then if x1 = 0 then some ((σ0.1 0), σ0) else (if x1 = 1 then some ((σ0.1 1), σ0) else (if x1 = 2 then M_count_112 N N 0 0 σ0 else (if x1 = 3 then some ((σ0.1 2), σ0) else (if x1 = 4 then some ((σ0.1 3), σ0) else (if x1 = 5 then some ((σ0.1 4), σ0) else (if x1 = 6 then some ((σ0.1 5), σ0) else (if x1 = 7 then some ((σ0.1 6), σ0) else (if x1 = 8 then some ((σ0.1 7), σ0) else (if x1 = 9 then bnd (M_works N σ0) (fun σ16 => some ((σ16.1 9), σ16)) else (some ((-1), σ0))))))))))) else grd (inb (x1 - 30) 8) (some ((σ0.2.1 6 ((x1 - 30)).toNatClampNeg), σ0)) else grd (inb (x1 - 20) 8) (some ((σ0.2.1 5 ((x1 - 20)).toNatClampNeg), σ0))
abbrev rm_M_count : Room := { frames := 5, cells := 0, slots := 0, locals := 115 }
set_option maxHeartbeats 4000000 in
set_option maxRecDepth 100000 in
theorem k_M_count (l : Launch) (ad : Nat → Nat) (cI cJ cZ : ClassId) {N : Nat} {x1 : Int32} {σ0 : St} {r : Int32} {τ : St} (hf : M_count N x1 σ0 = some (r, τ)) : CtI l yX8_count (gws (.code yX8_count cX8_count 4 (some .int))) (rm_M_count) (ty3 cI cJ cZ) (mw ad cI cZ) [.ref (ad 0), .int x1] σ0 r τ := by
  refine CtI.of (by decide) (mw_ok ad cI cZ) (Nat.le_of_ble_eq_true rfl) ?_
  generalize hav : ([.ref (ad 0), .int x1] : List Value) = av
  intro p e s m below meth c D A hC ls hl hP hS
  obtain ⟨hx, hb, hr, hlocks, hml, hown, hts, hK, hN, hD, hA⟩ := id hC
  rw [← hav] at hl
  have hl : lv_has ls 4 [(0, .ref (ad 0)), (1, .int x1)] := hl
  unfold M_count at hf
  have hw_112 : ∀ (n : Nat), ∀ (x2 : Int32) (x3 : Int32) (σ : St) (H : Heap) (locs : List Loc) (ls : Array Slot), va_P D vwCl ((mw ad cI cZ) σ) H → va_S A s.heap H locs → lv_has ls 4 [(0, .ref (ad 0)), (2, .int x2), (3, .int x3)] → M_count_112 N n x2 x3 σ = some (r, τ) → W p l e (rm_M_count) s m av.toArray below meth c H locs 0 0 (QI below av.toArray s D A (mw ad cI cZ) r τ) (F0 m 112 ls []) := by
    intro n
    induction n with
    | zero =>
      intro x2 x3 σ H locs ls hP hS hl hf
      cases hf
    | succ n ih =>
      intro x2 x3 σ H locs ls hP hS hl hf
      rw [M_count_112_s] at hf
      refine lv_iload_n hx hb dX8_count_112 rfl (lv_at hl 2 rfl) ?_
      refine lv_aload_n hx hb dX8_count_113 rfl (lv_at hl 0 rfl) ?_
      refine mg_0_1 hC hP tw_720 dX8_count_114 ?_
      refine lv_icmp_ge (tgt := 143) hx hb dX8_count_117 (by decide) (fun c1 => ?_) (fun c1 => ?_)
      · rw [if_pos c1] at hf
        refine lv_iload_n hx hb dX8_count_143 rfl (lv_at hl 1 rfl) ?_
        obtain ⟨h1, h2⟩ := ret2 hf
        exact retI hx hb hr hlocks hP hS h1 h2 dX8_count_144
      rw [if_neg c1] at hf
      refine lv_iload_n hx hb dX8_count_120 rfl (lv_at hl 1 rfl) ?_
      refine lv_aload_n hx hb dX8_count_121 rfl (lv_at hl 0 rfl) ?_
      refine mg_0_12 hC hP tw_731 dX8_count_122 ?_
      refine lv_iload_n hx hb dX8_count_125 rfl (lv_at hl 2 rfl) ?_
      obtain ⟨g2, hf⟩ := grd_some hf
      refine ml_5 hC hP g2 dX8_count_126 ?_
      refine lv_if_eq (tgt := 134) hx hb dX8_count_127 (by decide) (fun c3 => ?_) (fun c3 => ?_)
      · rw [if_pos c3] at hf
        refine lv_iconst (v := 1) hx hb dX8_count_134 (by decide) ?_
        refine lv_iadd hx hb dX8_count_135 ?_
        refine lv_istore_n (lv' := [(2, .int (x2 + 1)), (0, .ref (ad 0)), (3, .int x3)]) hx hb dX8_count_136 rfl hl (by decide) rfl (fun ls hl => ?_)
        refine lv_iinc (v := (x3 + 1)) (lv' := [(3, .int (x3 + 1)), (2, .int (x2 + 1)), (0, .ref (ad 0))]) hx hb dX8_count_137 hl (k := 2) rfl rfl (by decide) rfl (fun ls hl => ?_)
        refine lv_goto (tgt := 112) hx hb dX8_count_140 (by decide) ?_
        exact ih (x2 + 1) (x3 + 1) σ H locs ls hP hS (lv_sub hl [2, 1, 0] rfl) hf
      rw [if_neg c3] at hf
      refine lv_iconst (v := 0) hx hb dX8_count_130 (by decide) ?_
      refine lv_goto (tgt := 135) hx hb dX8_count_131 (by decide) ?_
      refine lv_iadd hx hb dX8_count_135 ?_
      refine lv_istore_n (lv' := [(2, .int (x2 + 0)), (0, .ref (ad 0)), (3, .int x3)]) hx hb dX8_count_136 rfl hl (by decide) rfl (fun ls hl => ?_)
      refine lv_iinc (v := (x3 + 1)) (lv' := [(3, .int (x3 + 1)), (2, .int (x2 + 0)), (0, .ref (ad 0))]) hx hb dX8_count_137 hl (k := 2) rfl rfl (by decide) rfl (fun ls hl => ?_)
      refine lv_goto (tgt := 112) hx hb dX8_count_140 (by decide) ?_
      exact ih (x2 + 0) (x3 + 1) σ H locs ls hP hS (lv_sub hl [2, 1, 0] rfl) hf
  obtain ⟨H, hH⟩ : ∃ z, z = s.heap := ⟨_, rfl⟩
  obtain ⟨locs, hlocs⟩ : ∃ z : List Loc, z = [] := ⟨_, rfl⟩
  rw [← hH] at hP
  have hS : va_S A s.heap H locs := by rw [hH, hlocs]; exact va_S.rf
  suffices hgoal : W p l e _ s m _ below meth c H locs 0 0 _ _ by rw [hH, hlocs] at hgoal; exact hgoal
  refine lv_aload_n hx hb dX8_count_0 rfl (lv_at hl 0 rfl) ?_
  refine lv_iload_n hx hb dX8_count_1 rfl (lv_at hl 1 rfl) ?_
  refine lv_bipush (v := 20) hx hb dX8_count_2 (by decide) ?_
  refine lv_isub hx hb dX8_count_4 ?_
  refine cVi (As := [.int (x1 - 20)]) (rest := []) hC (k_M_isPost l ad cI cJ cZ rfl) yy_X8_isPost tw_822 rfl rfl ⟨by decide, by decide⟩ hP hS (q0 := 0) (ci := 8) rfl rfl (mwa_0 ..) rfl hl.1 rfl (Nat.le_of_ble_eq_true rfl) dX8_count_5 (fun H locs hP hS => ?_)
  refine lv_if_eq (tgt := 21) hx hb dX8_count_8 (by decide) (fun c4 => ?_) (fun c4 => ?_)
  · rw [if_pos c4] at hf
    refine lv_aload_n hx hb dX8_count_21 rfl (lv_at hl 0 rfl) ?_
    refine lv_iload_n hx hb dX8_count_22 rfl (lv_at hl 1 rfl) ?_
    refine lv_bipush (v := 30) hx hb dX8_count_23 (by decide) ?_
    refine lv_isub hx hb dX8_count_25 ?_
    refine cVi (As := [.int (x1 - 30)]) (rest := []) hC (k_M_isPost l ad cI cJ cZ rfl) yy_X8_isPost tw_822 rfl rfl ⟨by decide, by decide⟩ hP hS (q0 := 0) (ci := 8) rfl rfl (mwa_0 ..) rfl hl.1 rfl (Nat.le_of_ble_eq_true rfl) dX8_count_26 (fun H locs hP hS => ?_)
    refine lv_if_eq (tgt := 42) hx hb dX8_count_29 (by decide) (fun c5 => ?_) (fun c5 => ?_)
    · rw [if_pos c5] at hf
      refine lv_iconst (v := 0) hx hb dX8_count_42 (by decide) ?_
      refine lv_istore_n (lv' := [(2, .int 0), (0, .ref (ad 0)), (1, .int x1)]) hx hb dX8_count_43 rfl hl (by decide) rfl (fun ls hl => ?_)
      refine lv_iload_n hx hb dX8_count_44 rfl (lv_at hl 2 rfl) ?_
      by_cases c6 : x1 = 0
      · rw [if_pos c6] at hf
        refine lv_tableIn (tgt := 100) hx hb dX8_count_45 (by rw [c6]; decide) (by rw [c6]; decide) (by rw [c6]; rfl) (by decide) ?_
        refine lv_aload_n hx hb dX8_count_100 rfl (lv_at hl 1 rfl) ?_
        refine mg_0_0 hC hP tw_719 dX8_count_101 ?_
        obtain ⟨h1, h2⟩ := ret2 hf
        exact retI hx hb hr hlocks hP hS h1 h2 dX8_count_104
      rw [if_neg c6] at hf
      by_cases c7 : x1 = 1
      · rw [if_pos c7] at hf
        refine lv_tableIn (tgt := 105) hx hb dX8_count_45 (by rw [c7]; decide) (by rw [c7]; decide) (by rw [c7]; rfl) (by decide) ?_
        refine lv_aload_n hx hb dX8_count_105 rfl (lv_at hl 1 rfl) ?_
        refine mg_0_1 hC hP tw_720 dX8_count_106 ?_
        obtain ⟨h1, h2⟩ := ret2 hf
        exact retI hx hb hr hlocks hP hS h1 h2 dX8_count_109
      rw [if_neg c7] at hf
      by_cases c8 : x1 = 2
      · rw [if_pos c8] at hf
        refine lv_tableIn (tgt := 110) hx hb dX8_count_45 (by rw [c8]; decide) (by rw [c8]; decide) (by rw [c8]; rfl) (by decide) ?_
        refine lv_iconst (v := 0) hx hb dX8_count_110 (by decide) ?_
        refine lv_istore_n (lv' := [(3, .int 0), (2, .int 0), (0, .ref (ad 0)), (1, .int x1)]) hx hb dX8_count_111 rfl hl (by decide) rfl (fun ls hl => ?_)
        exact hw_112 N 0 0 σ0 H locs ls hP hS (lv_sub hl [2, 1, 0] rfl) hf
      rw [if_neg c8] at hf
      by_cases c9 : x1 = 3
      · rw [if_pos c9] at hf
        refine lv_tableIn (tgt := 145) hx hb dX8_count_45 (by rw [c9]; decide) (by rw [c9]; decide) (by rw [c9]; rfl) (by decide) ?_
        refine lv_aload_n hx hb dX8_count_145 rfl (lv_at hl 1 rfl) ?_
        refine mg_0_2 hC hP tw_721 dX8_count_146 ?_
        obtain ⟨h1, h2⟩ := ret2 hf
        exact retI hx hb hr hlocks hP hS h1 h2 dX8_count_149
      rw [if_neg c9] at hf
      by_cases c10 : x1 = 4
      · rw [if_pos c10] at hf
        refine lv_tableIn (tgt := 150) hx hb dX8_count_45 (by rw [c10]; decide) (by rw [c10]; decide) (by rw [c10]; rfl) (by decide) ?_
        refine lv_aload_n hx hb dX8_count_150 rfl (lv_at hl 1 rfl) ?_
        refine mg_0_3 hC hP tw_722 dX8_count_151 ?_
        obtain ⟨h1, h2⟩ := ret2 hf
        exact retI hx hb hr hlocks hP hS h1 h2 dX8_count_154
      rw [if_neg c10] at hf
      by_cases c11 : x1 = 5
      · rw [if_pos c11] at hf
        refine lv_tableIn (tgt := 155) hx hb dX8_count_45 (by rw [c11]; decide) (by rw [c11]; decide) (by rw [c11]; rfl) (by decide) ?_
        refine lv_aload_n hx hb dX8_count_155 rfl (lv_at hl 1 rfl) ?_
        refine mg_0_4 hC hP tw_723 dX8_count_156 ?_
        obtain ⟨h1, h2⟩ := ret2 hf
        exact retI hx hb hr hlocks hP hS h1 h2 dX8_count_159
      rw [if_neg c11] at hf
      by_cases c12 : x1 = 6
      · rw [if_pos c12] at hf
        refine lv_tableIn (tgt := 160) hx hb dX8_count_45 (by rw [c12]; decide) (by rw [c12]; decide) (by rw [c12]; rfl) (by decide) ?_
        refine lv_aload_n hx hb dX8_count_160 rfl (lv_at hl 1 rfl) ?_
        refine mg_0_5 hC hP tw_724 dX8_count_161 ?_
        obtain ⟨h1, h2⟩ := ret2 hf
        exact retI hx hb hr hlocks hP hS h1 h2 dX8_count_164
      rw [if_neg c12] at hf
      by_cases c13 : x1 = 7
      · rw [if_pos c13] at hf
        refine lv_tableIn (tgt := 165) hx hb dX8_count_45 (by rw [c13]; decide) (by rw [c13]; decide) (by rw [c13]; rfl) (by decide) ?_
        refine lv_aload_n hx hb dX8_count_165 rfl (lv_at hl 1 rfl) ?_
        refine mg_0_6 hC hP tw_725 dX8_count_166 ?_
        obtain ⟨h1, h2⟩ := ret2 hf
        exact retI hx hb hr hlocks hP hS h1 h2 dX8_count_169
      rw [if_neg c13] at hf
      by_cases c14 : x1 = 8
      · rw [if_pos c14] at hf
        refine lv_tableIn (tgt := 170) hx hb dX8_count_45 (by rw [c14]; decide) (by rw [c14]; decide) (by rw [c14]; rfl) (by decide) ?_
        refine lv_aload_n hx hb dX8_count_170 rfl (lv_at hl 1 rfl) ?_
        refine mg_0_7 hC hP tw_726 dX8_count_171 ?_
        obtain ⟨h1, h2⟩ := ret2 hf
        exact retI hx hb hr hlocks hP hS h1 h2 dX8_count_174
      rw [if_neg c14] at hf
      by_cases c15 : x1 = 9
      · rw [if_pos c15] at hf
        refine lv_tableIn (tgt := 175) hx hb dX8_count_45 (by rw [c15]; decide) (by rw [c15]; decide) (by rw [c15]; rfl) (by decide) ?_
        refine lv_aload_n hx hb dX8_count_175 rfl (lv_at hl 1 rfl) ?_
        obtain ⟨σ16, hcσ16, hf⟩ := bnd_some hf
        refine cVv (As := []) (rest := []) hC (k_M_works l ad cI cJ cZ hcσ16) yy_X8_works tw_912 rfl rfl ⟨by decide, by decide⟩ hP hS (q0 := 0) (ci := 8) rfl rfl (mwa_0 ..) rfl hl.1 rfl (Nat.le_of_ble_eq_true rfl) dX8_count_176 (fun H locs hP hS => ?_)
        refine lv_aload_n hx hb dX8_count_179 rfl (lv_at hl 1 rfl) ?_
        refine mg_0_19 hC hP tw_738 dX8_count_180 ?_
        obtain ⟨h1, h2⟩ := ret2 hf
        exact retI hx hb hr hlocks hP hS h1 h2 dX8_count_183
      rw [if_neg c15] at hf
      refine lv_tableOut (tgt := 184) hx hb dX8_count_45 (sw_out10 c6 c7 c8 c9 c10 c11 c12 c13 c14 c15) (by decide) ?_
      refine lv_iconst (v := (-1)) hx hb dX8_count_184 (by decide) ?_
      obtain ⟨h1, h2⟩ := ret2 hf
      exact retI hx hb hr hlocks hP hS h1 h2 dX8_count_185
    rw [if_neg c5] at hf
    refine lv_aload_n hx hb dX8_count_32 rfl (lv_at hl 0 rfl) ?_
    refine mg_0_14 hC hP tw_733 dX8_count_33 ?_
    refine lv_iload_n hx hb dX8_count_36 rfl (lv_at hl 1 rfl) ?_
    refine lv_bipush (v := 30) hx hb dX8_count_37 (by decide) ?_
    refine lv_isub hx hb dX8_count_39 ?_
    obtain ⟨g17, hf⟩ := grd_some hf
    refine ml_7 hC hP g17 dX8_count_40 ?_
    obtain ⟨h1, h2⟩ := ret2 hf
    exact retI hx hb hr hlocks hP hS h1 h2 dX8_count_41
  rw [if_neg c4] at hf
  refine lv_aload_n hx hb dX8_count_11 rfl (lv_at hl 0 rfl) ?_
  refine mg_0_13 hC hP tw_732 dX8_count_12 ?_
  refine lv_iload_n hx hb dX8_count_15 rfl (lv_at hl 1 rfl) ?_
  refine lv_bipush (v := 20) hx hb dX8_count_16 (by decide) ?_
  refine lv_isub hx hb dX8_count_18 ?_
  obtain ⟨g18, hf⟩ := grd_some hf
  refine ml_6 hC hP g18 dX8_count_19 ?_
  obtain ⟨h1, h2⟩ := ret2 hf
  exact retI hx hb hr hlocks hP hS h1 h2 dX8_count_20
