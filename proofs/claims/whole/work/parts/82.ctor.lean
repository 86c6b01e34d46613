/-! constructors: a contract that makes cells -/
def nC (U : State) : Prop := nK U ∧ va_Nw (.methodLinkNest RX7 11 yX2_init RX7) U ∧ va_Nw (.methodLinkNest RX7 18 yX1_init RX7) U ∧ va_Nw (.methodLinkNest RX6 29 yX5_init RX7) U ∧ va_Nw (.methodLinkNest RX3 17 yX5_init RX7) U
theorem nC.warm {s U : State} (hW : s.WarmedH U.vm) (h : nC s) : nC U := ⟨nK.warm hW h.1, va_Nw.warmM hW h.2.1, va_Nw.warmM hW h.2.2.1, va_Nw.warmM hW h.2.2.2.1, va_Nw.warmM hW h.2.2.2.2⟩
theorem nC.same {s U : State} (e : s.vm = U.vm) (h : nC s) : nC U := ⟨nK.same e h.1, va_Nw.same rfl e h.2.1, va_Nw.same rfl e h.2.2.1, va_Nw.same rfl e h.2.2.2.1, va_Nw.same rfl e h.2.2.2.2⟩
def pn (D : va_G) (tys : List (ClassId × FieldType)) (ws : va_W) (sz : Nat) (U : State) : Prop := U.heap.size = sz ∧ va_P D vwCl ws U.heap ∧ va_K D vwCl tys U ∧ nC U ∧ va_D (fun _ => True) ws
theorem pn_blind {D : va_G} {tys : List (ClassId × FieldType)} {ws : va_W} {sz : Nat} {av : List Value} : FrameBlind (va_Pc av (pn D tys ws sz)) := by
  intro a U g mk q
  obtain ⟨q0, q1, qP, qK, qN, qD⟩ := q
  exact ⟨q0, q1, qP, va_K.moved (u := U) (U := U.calling g mk a) (Vm.Alike.refl U.vm) qK, nC.same rfl qN, qD⟩
def CtN (l : Launch) (y : MethodName) (ws : List Cond) (rm : Room) (tys : List (ClassId × FieldType)) (av : List Value) (w0 : va_W) (w1 : (Nat → Nat) → va_W) (mc ms : Nat) : Prop :=
  ∀ (D : va_G) (sz : Nat), Met l y ws rm (va_Pc av (pn D tys w0 sz)) (va_Qv (fun _ : Nat → Nat => True) (fun ad t => va_P D vwCl (w1 ad) t.heap ∧ va_D (va_A w0 sz) (w1 ad)) (va_A w0 sz)) mc ms (va_A w0 sz)
def Cn (p : Program) (s : State) (m : MethodId) (args : Array Value) (meth : Method) (c : Code) (D : va_G) (A : Nat → Prop) (tys : List (ClassId × FieldType)) (own : String) (cc : ByteArray) (maxL : Nat) : Prop :=
  p.tables.exec = Jvm.exec ∧ c.code = cc ∧ meth.sig.returnType = none ∧ meth.locks = false ∧ c.maxLocals = maxL ∧ s.vm.findClass own = some m.cls ∧ (∀ w ∈ gw, w.before args s = true) ∧ va_K D vwCl tys s ∧ nC s ∧ meth.name = "<init>" ∧ (∀ q : Nat, s.heap.size ≤ q → A q)
abbrev QN (below : List Frame) (args : Array Value) (s : State) (D : va_G) (A : Nat → Prop) (w1 : (Nat → Nat) → va_W) (mc ms : Nat) : State → Prop := MQ below (va_Qv (fun _ : Nat → Nat => True) (fun ad t => va_P D vwCl (w1 ad) t.heap ∧ va_D A (w1 ad)) A) args s mc ms A
theorem CtN.of {l : Launch} {y : MethodName} {rm : Room} {tys : List (ClassId × FieldType)} {av : List Value} {w0 : va_W} {w1 : (Nat → Nat) → va_W} {mc ms : Nat} {cc : ByteArray} {maxL : Nat}
    (hy : plainName y.cls = true) (hyn : y.name = "<init>") (hav : (lg_sl av).length ≤ maxL)
    (body : ∀ (p : Program) (e : Env) (s : State) (m : MethodId) (below : List Frame) (meth : Method) (c : Code) (D : va_G) (A : Nat → Prop), Cn p s m av.toArray meth c D A tys y.cls cc maxL → ∀ (ls : Array Slot), lv_has ls maxL (lv_args 0 av) → va_P D vwCl w0 s.heap → va_D A w0 → va_S A s.heap s.heap [] →
      W p l e rm s m av.toArray below meth c s.heap [] 0 0 (QN below av.toArray s D A w1 mc ms) (F0 m 0 ls [])) : CtN l y (gws (.code y cc maxL none)) rm tys av w0 w1 mc ms := by
  intro D sz
  refine Met.ofW (cc := cc) (maxL := maxL) (ret := none) hy rfl ?_
  intro p e s m args below meth c s₁ B hml hv
  obtain ⟨rfl, hsz, hP, hK, hN, hD0⟩ := hv
  subst hsz
  have hts0 := atoms_spec (ws := gws (.code y cc maxL none)) B.pre
  have hl := lv_entry av (n := maxL) hav
  have hin : meth.name = y.name := (name_of_methodNamed B.named B.method).1
  rw [lg_entry_eq]
  generalize (lg_sl av ++ List.replicate (maxL - (lg_sl av).length) Slot.unset).toArray = ls at hl ⊢
  exact body p e s m below meth c D (va_A w0 s.heap.size) ⟨B.exec, B.bytes, B.returns, B.notSynchronized, hml, findClass_of_methodNamed B.named, fun w h => hts0 w (List.mem_cons_of_mem _ h), hK, hN, hin.trans hyn, fun q h => Or.inr h⟩ ls hl hP (hD0.self) va_S.rf
theorem tw_oc : (.code objectInit ⟨#[0xb1]⟩ 1 none : Cond) ∈ gw := gw_mem 58 (by decide +kernel) (by decide +kernel)
section NR
variable {p : Program} {l : Launch} {e : Env} {R : Room} {s : State} {m : MethodId} {args : Array Value} {below : List Frame} {meth : Method} {c : Code} {H : Heap} {locs : List Loc} {cells slots : Nat} {Q : State → Prop}
variable {cc : ByteArray} {pc : Nat} {ls : Array Slot} {D : va_G} {A : Nat → Prop} {own : String} {maxL : Nat} {ws : va_W} {rest : List Value} {cI cJ cZ : ClassId}
theorem n_obj {tys : List (ClassId × FieldType)} (hC : Cn p s m args meth c D A tys own cc maxL) {idx : Nat} {a : Nat} (hl : Cond.methodLink own idx objectInit ∈ gw) (hi : Cond.instanceMethod objectInit ∈ gw) (hsz : ls.size = maxL) (hR : 1 ≤ R.frames ∧ 12 ≤ R.locals) (hdg : decode cc pc = .ok (.invokespecial idx, 3)) (kk : W p l e R s m args below meth c H locs cells slots Q (F0 m (pc + 3) ls [])) : W p l e R s m args below meth c H locs cells slots Q (F0 m pc ls [.ref a]) := by
  obtain ⟨hx, hb, hr, hlocks, hml, hown, hts, hK, hN, hin, hA⟩ := hC
  exact W.objInit hx hb hown (hts _ hl) (hts _ hi) (hts _ tw_oc) rfl (by rw [hml]; exact hsz) rfl hdg hR.1 (by show 2 * 0 + 0 + 12 ≤ R.locals; exact hR.2) kk
theorem raI {s : State} {a b : ClassId} (h1 : va_RA s a .int) (h2 : va_RA s b .int) : a = b := Option.some.inj (h1.symm.trans h2)
theorem raJ {s : State} {a b : ClassId} (h1 : va_RA s a .long) (h2 : va_RA s b .long) : a = b := Option.some.inj (h1.symm.trans h2)
theorem raZ {s : State} {a b : ClassId} (h1 : va_RA s a .boolean) (h2 : va_RA s b .boolean) : a = b := Option.some.inj (h1.symm.trans h2)
theorem fc_one {s : State} {n : String} {a b : ClassId} (h1 : s.vm.findClass n = some a) (h2 : s.vm.findClass n = some b) : a = b := Option.some.inj (h1.symm.trans h2)
theorem nwI (hC : Cn p s m args meth c D A (ty3 cI cJ cZ) own cc maxL) (hP : va_P D vwCl ws H) (hD : va_D A ws) (hS : va_S A s.heap H locs) {n : Int32} {N : Nat} (hn : ¬ n < 0) (hN : n.toNatClampNeg = N) (hby : N * componentBytes .int ≤ 536870912) (hcells : cells + 1 ≤ R.cells) (hslots : slots + N ≤ R.slots) (hdg : decode cc pc = .ok (.newarray .int, 2))
    (kk : ∀ (q : Nat) (H1 : Heap), va_P D vwCl (ws ++ [(q, .inl (cI, N, .inl (fun _ => 0)))]) H1 → va_D A (ws ++ [(q, .inl (cI, N, .inl (fun _ => 0)))]) → va_S A s.heap H1 locs → W p l e R s m args below meth c H1 locs (cells + 1) (slots + N) Q (F0 m (pc + 2) ls (.ref q :: rest))) : W p l e R s m args below meth c H locs cells slots Q (F0 m pc ls (.int n :: rest)) := by
  obtain ⟨hx, hb, hr, hlocks, hml, hown, hts, hK, hNn, hin, hA⟩ := hC
  refine va_newa (a0 := (N, .inl (fun _ => 0))) (ty := .int) (atype := .int) hx hb (hts (.arrayClass .int) tw_117) rfl hK hP hD hS hA (fun cA => rfl) hn hN hby hcells hslots hdg (fun q cA H1 hK1 h1 h2 h3 => ?_)
  have e : cA = cI := raI (hK1.2 3 _ rfl).2 (hK.2 0 _ rfl).2
  subst e
  exact kk q H1 h1 h2 h3
theorem nwJ (hC : Cn p s m args meth c D A (ty3 cI cJ cZ) own cc maxL) (hP : va_P D vwCl ws H) (hD : va_D A ws) (hS : va_S A s.heap H locs) {n : Int32} {N : Nat} (hn : ¬ n < 0) (hN : n.toNatClampNeg = N) (hby : N * componentBytes .long ≤ 536870912) (hcells : cells + 1 ≤ R.cells) (hslots : slots + N ≤ R.slots) (hdg : decode cc pc = .ok (.newarray .long, 2))
    (kk : ∀ (q : Nat) (H1 : Heap), va_P D vwCl (ws ++ [(q, .inl (cJ, N, .inr (.inl (fun _ => 0))))]) H1 → va_D A (ws ++ [(q, .inl (cJ, N, .inr (.inl (fun _ => 0))))]) → va_S A s.heap H1 locs → W p l e R s m args below meth c H1 locs (cells + 1) (slots + N) Q (F0 m (pc + 2) ls (.ref q :: rest))) : W p l e R s m args below meth c H locs cells slots Q (F0 m pc ls (.int n :: rest)) := by
  obtain ⟨hx, hb, hr, hlocks, hml, hown, hts, hK, hNn, hin, hA⟩ := hC
  refine va_newa (a0 := (N, .inr (.inl (fun _ => 0)))) (ty := .long) (atype := .long) hx hb (hts (.arrayClass .long) tw_198) rfl hK hP hD hS hA (fun cA => rfl) hn hN hby hcells hslots hdg (fun q cA H1 hK1 h1 h2 h3 => ?_)
  have e : cA = cJ := raJ (hK1.2 3 _ rfl).2 (hK.2 1 _ rfl).2
  subst e
  exact kk q H1 h1 h2 h3
theorem nwZ (hC : Cn p s m args meth c D A (ty3 cI cJ cZ) own cc maxL) (hP : va_P D vwCl ws H) (hD : va_D A ws) (hS : va_S A s.heap H locs) {n : Int32} {N : Nat} (hn : ¬ n < 0) (hN : n.toNatClampNeg = N) (hby : N * componentBytes .boolean ≤ 536870912) (hcells : cells + 1 ≤ R.cells) (hslots : slots + N ≤ R.slots) (hdg : decode cc pc = .ok (.newarray .boolean, 2))
    (kk : ∀ (q : Nat) (H1 : Heap), va_P D vwCl (ws ++ [(q, .inl (cZ, N, .inl (fun _ => 0)))]) H1 → va_D A (ws ++ [(q, .inl (cZ, N, .inl (fun _ => 0)))]) → va_S A s.heap H1 locs → W p l e R s m args below meth c H1 locs (cells + 1) (slots + N) Q (F0 m (pc + 2) ls (.ref q :: rest))) : W p l e R s m args below meth c H locs cells slots Q (F0 m pc ls (.int n :: rest)) := by
  obtain ⟨hx, hb, hr, hlocks, hml, hown, hts, hK, hNn, hin, hA⟩ := hC
  refine va_newa (a0 := (N, .inl (fun _ => 0))) (ty := .boolean) (atype := .boolean) hx hb (hts (.arrayClass .boolean) tw_810) rfl hK hP hD hS hA (fun cA => rfl) hn hN hby hcells hslots hdg (fun q cA H1 hK1 h1 h2 h3 => ?_)
  have e : cA = cZ := raZ (hK1.2 3 _ rfl).2 (hK.2 2 _ rfl).2
  subst e
  exact kk q H1 h1 h2 h3
end NR
