section QNew
/-- a contract that makes cells: the new addresses are q 0, q 1 .. -/
def aQ (D : va_G) (sz : Nat) (ws : va_W) (P : (Nat → Nat) → va_W) : Array Value → State → Outcome → State → Prop := fun _ st oc t =>
  ∃ q : Nat → Nat, oc = .returned none ∧ va_P D vwCl (P q) t.heap ∧ va_D (va_A ws sz) (P q) ∧ va_F (va_A ws sz) st t
def Mc (l : Launch) (y : MethodName) (cc : ByteArray) (n : Nat) (rm : Room) (D : va_G) (tys : List (ClassId × FieldType)) (av : List Value) (sz : Nat) (ws : va_W) (P : (Nat → Nat) → va_W) (mc ms : Nat) : Prop :=
  Met l y (wd y cc n none) rm (cPre D tys av sz ws) (aQ D sz ws P) mc ms (va_A ws sz)
theorem Mc.of {l : Launch} {y : MethodName} {cc : ByteArray} {n : Nat} {rm : Room} {D : va_G} {tys : List (ClassId × FieldType)} {av : List Value} {sz : Nat} {ws : va_W} {P : (Nat → Nat) → va_W} {mc ms : Nat}
    (hy : plainName y.cls = true) (hle : (lg_sl av).length ≤ n)
    (body : ∀ (p : Program) (e : Env) (s : State) (m : MethodId) (below : List Frame) (meth : Method) (c : Code), Cx p m c cc n s av.toArray (Cond.code y cc n none) y.cls meth none → meth.name = y.name → va_K D vwCl tys s → s.heap.size = sz → va_P D vwCl ws s.heap → va_D (va_A ws sz) ws →
      ∀ ls : Array Slot, lv_has ls n (lv_args 0 av) → W p l e rm s m av.toArray below meth c s.heap [] 0 0 (MQ below (aQ D sz ws P) av.toArray s mc ms (va_A ws sz)) (F0 m 0 ls [])) :
    Mc l y cc n rm D tys av sz ws P mc ms := by
  refine Met.ofW (cc := cc) (maxL := n) (ret := none) hy rfl ?_
  intro p e s m args below meth c s₁ B hml hv
  obtain ⟨rfl, hsz, hP, hK, hD0, hN⟩ := hv
  have hts := atoms_spec (ws := wd y cc n none) B.pre
  have hown : s.vm.findClass y.cls = some m.cls := findClass_of_methodNamed B.named
  have hD := hD0.self (sz := sz)
  rw [lg_entry_eq]
  exact body p e s m below meth c ⟨⟨B.exec, B.bytes, hml, hown, hts⟩, B.returns, B.notSynchronized, hN⟩ (name_of_methodNamed B.named B.method).1 hK hsz hP hD _ (lv_entry av hle)
theorem cA_eq {D : va_G} {cl : List vw_C} {tys : List (ClassId × FieldType)} {U : State} {cA cI : ClassId} {ty : FieldType} {k k2 : Nat} (h : va_K D cl tys U) (h1 : tys[k]? = some (cI, ty)) (h2 : tys[k2]? = some (cA, ty)) (hp : ty = .int ∨ ty = .long ∨ ty = .byte) : cA = cI := by
  have a1 := (h.2 k _ h1).2
  have a2 := (h.2 k2 _ h2).2
  rcases hp with rfl | rfl | rfl
  · exact Option.some.inj (a2.symm.trans a1)
  · exact Option.some.inj (a2.symm.trans a1)
  · exact Option.some.inj (a2.symm.trans a1)
section QNewRows
variable {p : Program} {l : Launch} {e : Env} {R : Room} {s : State} {m : MethodId} {args : Array Value} {below : List Frame} {meth : Method} {c : Code} {H : Heap} {locs : List Loc} {cells slots : Nat} {Q : State → Prop}
variable {cc : ByteArray} {pc nL idx : Nat} {ls : Array Slot} {rest st : List Value} {D : va_G} {A : Nat → Prop} {ws ws0 : va_W} {H0 : Heap} {own C : String} {x0 : Cond} {T : u_T} {N a ci : Nat} {fs : List Value} {v : Value} {cI cJ cB : ClassId}
variable {y : MethodName} {cy : ByteArray} {ny n mc ms : Nat} {rm : Room} {b : Nat} {As : List Value} {wc : va_W} {P : (Nat → Nat) → va_W}
theorem r_newi (F : CallFix p m c cc nL s args (x0 :: W0) own) (hK : va_K D vwCl (ty0 cI cJ cB) s) (hP : va_P D vwCl ws H) (hD : va_D A ws) (hS : va_S A H0 H locs) (hA : ∀ q, H0.size ≤ q → A q) (hw : Cond.arrayClass .int ∈ W0) {k : Int32} (hn : ¬ k < 0) (hN : k.toNatClampNeg = N) (hbytes : N * 4 ≤ 536870912) (hcells : cells + 1 ≤ R.cells) (hslots : slots + N ≤ R.slots) (hdg : decode cc pc = .ok (.newarray .int, 2))
    (kk : ∀ (q : Nat) (H1 : Heap), va_P D vwCl (ws ++ [(q, .inl (cI, N, .inl (fun _ => 0)))]) H1 → va_D A (ws ++ [(q, .inl (cI, N, .inl (fun _ => 0)))]) → va_S A H0 H1 locs → W p l e R s m args below meth c H1 locs (cells + 1) (slots + N) Q (F0 m (pc + 2) ls (.ref q :: rest))) :
    W p l e R s m args below meth c H locs cells slots Q (F0 m pc ls (.int k :: rest)) := by
  refine va_newa (atype := .int) (ty := .int) (a0 := (N, .inl (fun _ => 0))) F.1 F.2.1 (F.2.2.2.2 _ (q_in hw)) rfl hK hP hD hS hA (fun cA => rfl) hn hN hbytes hcells hslots hdg ?_
  intro q cA H1 hK1 hP1 hD1 hS1
  have e1 : cA = cI := cA_eq hK1 (k := 0) (k2 := 3) rfl rfl (Or.inl rfl)
  subst e1
  exact kk q H1 hP1 hD1 hS1
theorem r_newl (F : CallFix p m c cc nL s args (x0 :: W0) own) (hK : va_K D vwCl (ty0 cI cJ cB) s) (hP : va_P D vwCl ws H) (hD : va_D A ws) (hS : va_S A H0 H locs) (hA : ∀ q, H0.size ≤ q → A q) (hw : Cond.arrayClass .long ∈ W0) {k : Int32} (hn : ¬ k < 0) (hN : k.toNatClampNeg = N) (hbytes : N * 8 ≤ 536870912) (hcells : cells + 1 ≤ R.cells) (hslots : slots + N ≤ R.slots) (hdg : decode cc pc = .ok (.newarray .long, 2))
    (kk : ∀ (q : Nat) (H1 : Heap), va_P D vwCl (ws ++ [(q, .inl (cJ, N, .inr (.inl (fun _ => 0))))]) H1 → va_D A (ws ++ [(q, .inl (cJ, N, .inr (.inl (fun _ => 0))))]) → va_S A H0 H1 locs → W p l e R s m args below meth c H1 locs (cells + 1) (slots + N) Q (F0 m (pc + 2) ls (.ref q :: rest))) :
    W p l e R s m args below meth c H locs cells slots Q (F0 m pc ls (.int k :: rest)) := by
  refine va_newa (atype := .long) (ty := .long) (a0 := (N, .inr (.inl (fun _ => 0)))) F.1 F.2.1 (F.2.2.2.2 _ (q_in hw)) rfl hK hP hD hS hA (fun cA => rfl) hn hN hbytes hcells hslots hdg ?_
  intro q cA H1 hK1 hP1 hD1 hS1
  have e1 : cA = cJ := cA_eq hK1 (k := 1) (k2 := 3) rfl rfl (Or.inr (Or.inl rfl))
  subst e1
  exact kk q H1 hP1 hD1 hS1
theorem r_newb (F : CallFix p m c cc nL s args (x0 :: W0) own) (hK : va_K D vwCl (ty0 cI cJ cB) s) (hP : va_P D vwCl ws H) (hD : va_D A ws) (hS : va_S A H0 H locs) (hA : ∀ q, H0.size ≤ q → A q) (hw : Cond.arrayClass .byte ∈ W0) {k : Int32} (hn : ¬ k < 0) (hN : k.toNatClampNeg = N) (hbytes : N * 1 ≤ 536870912) (hcells : cells + 1 ≤ R.cells) (hslots : slots + N ≤ R.slots) (hdg : decode cc pc = .ok (.newarray .byte, 2))
    (kk : ∀ (q : Nat) (H1 : Heap), va_P D vwCl (ws ++ [(q, .inl (cB, N, .inl (fun _ => 0)))]) H1 → va_D A (ws ++ [(q, .inl (cB, N, .inl (fun _ => 0)))]) → va_S A H0 H1 locs → W p l e R s m args below meth c H1 locs (cells + 1) (slots + N) Q (F0 m (pc + 2) ls (.ref q :: rest))) :
    W p l e R s m args below meth c H locs cells slots Q (F0 m pc ls (.int k :: rest)) := by
  refine va_newa (atype := .byte) (ty := .byte) (a0 := (N, .inl (fun _ => 0))) F.1 F.2.1 (F.2.2.2.2 _ (q_in hw)) rfl hK hP hD hS hA (fun cA => rfl) hn hN hbytes hcells hslots hdg ?_
  intro q cA H1 hK1 hP1 hD1 hS1
  have e1 : cA = cB := cA_eq hK1 (k := 2) (k2 := 3) rfl rfl (Or.inr (Or.inr rfl))
  subst e1
  exact kk q H1 hP1 hD1 hS1
/-- a final field is written in the constructor -/
theorem r_putF (F : CallFix p m c cc nL s args (x0 :: W0) own) (hin2 : meth.name = "<init>") (hK : va_K D vwCl (ty0 cI cJ cB) s) (hP : va_P D vwCl ws H) (hD : va_D A ws) (hS : va_S A H0 H locs) {wn : va_W} (q0 k : Nat) (hc : vwCl[ci]? = some (C, T, N)) (hin : ∀ w ∈ u_ws C T N, w ∈ W0) (hl : Cond.fieldLink own idx (T k).1 (T k).2.1 (T k).2.2.1 ∈ W0)
    {ty1 : Nat → FieldType} (hty : ∀ k, k < N → parseFieldDescriptor (T k).2.2.1 = some (ty1 k)) (hnm : ∀ a, a < N → ∀ b, b < N → a ≠ b → (T a).2.1 ≠ (T b).2.1) (hfin : (T k).2.2.2 = true) (hdecl : (T k).1 = own)
    (he : ws[q0]? = some (a, .inr (ci, fs))) (hk : k < N) (hn : narrow (ty1 k) v = v) (hfit : fits (ty1 k) v = true) (hkl : k < fs.length) (hw : ws.set q0 (a, .inr (ci, fs.set k v)) = wn) (hdg : decode cc pc = .ok (.putfield idx, 3))
    (kk : ∀ (H1 : Heap) (locs1 : List Loc), va_P D vwCl wn H1 → va_D A wn → va_S A H0 H1 locs1 → W p l e R s m args below meth c H1 locs1 cells slots Q (F0 m (pc + 3) ls rest)) : W p l e R s m args below meth c H locs cells slots Q (F0 m pc ls (v :: .ref a :: rest)) :=
  va_putF F.1 F.2.1 F.2.2.2.2 (fun w h => q_in (hin w h)) ty1 hty hnm F.2.2.2.1 hK hP hD hS q0 he hc k hk (F.2.2.2.2 _ (q_in hl)) (fun _ h => h) hfin hin2 hdecl (hty k hk) hn hfit hkl hdg (fun H1 locs1 a1 a2 a3 => kk H1 locs1 (hw ▸ a1) (hw ▸ a2) a3)
/-- an object is made -/
theorem r_new (F : CallFix p m c cc nL s args (x0 :: W0) own) (hK : va_K D vwCl (ty0 cI cJ cB) s) (hP : va_P D vwCl ws H) (hD : va_D A ws) (hS : va_S A H0 H locs) (hA : ∀ q, H0.size ≤ q → A q) (hc : vwCl[ci]? = some (C, T, N)) (hin : ∀ w ∈ u_ws C T N, w ∈ W0)
    {ty1 : Nat → FieldType} (hty : ∀ k, k < N → parseFieldDescriptor (T k).2.2.1 = some (ty1 k)) (hcl : Cond.classLink own idx C ∈ W0) (hinst : Cond.instantiable C N ∈ W0) (hini : Cond.initialized C ∈ W0) (fs : List Value) (hfs : ∀ j, j < N → defaultValue (ty1 j) = vp_V fs j) (hcells : cells + 1 ≤ R.cells) (hslots : slots + N ≤ R.slots) (hdg : decode cc pc = .ok (.new idx, 3))
    (kk : ∀ (q : Nat) (H1 : Heap), va_P D vwCl (ws ++ [(q, .inr (ci, fs))]) H1 → va_D A (ws ++ [(q, .inr (ci, fs))]) → va_S A H0 H1 locs → W p l e R s m args below meth c H1 locs (cells + 1) (slots + N) Q (F0 m (pc + 3) ls (.ref q :: rest))) :
    W p l e R s m args below meth c H locs cells slots Q (F0 m pc ls rest) :=
  va_new F.1 F.2.1 F.2.2.2.2 (fun w h => q_in (hin w h)) ty1 hty F.2.2.2.1 (F.2.2.2.2 _ (q_in hcl)) (F.2.2.2.2 _ (q_in hinst)) (F.2.2.2.2 _ (q_in hini)) hK hP hD hS hA hc hfs hcells hslots hdg kk
theorem ka_tail (run : va_Run p l e R s m args below meth c H locs cells slots mc ms (F0 m pc ls st) rest (fun st0 oc t => aQ D H.size wc P #[] st0 oc t) (va_A wc H.size))
    (hP : va_P D vwCl ws H) (hD : va_D A ws) (hS : va_S A H0 H locs) (hA : ∀ q, H0.size ≤ q → A q) (isC isR : List Nat) (hI : va_nd isC = true ∧ va_nd isR = true ∧ (∀ i ∈ isR, i ∉ isC) ∧ isR.all (fun i => decide (i < ws.length)) = true)
    (hC : isC.map (fun i => ws[i]?) = wc.map some)
    (kk : ∀ (q : Nat → Nat) (H1 : Heap) (locs1 : List Loc), va_P D vwCl (isR.filterMap (fun i => ws[i]?) ++ P q) H1 → va_D A (isR.filterMap (fun i => ws[i]?) ++ P q) → va_S A H0 H1 locs1 → W p l e R s m args below meth c H1 locs1 (cells + mc) (slots + ms) Q (F0 m (pc + 3) ls rest)) :
    W p l e R s m args below meth c H locs cells slots Q (F0 m pc ls st) := by
  have hFc := va_free (wc := wc) hD hS hA isC hC
  intro T hT0 X
  obtain ⟨v, st₀, t, T', L, h0, X', hL, e1, e2, ⟨q, hv, hP1, hD1, hz, hk⟩, stp⟩ := run T hT0 X
  cases hv
  rw [h0] at hz hk
  rw [← e1] at hP1 hz
  have hk1 : ∀ q : Nat, q < H.size → ¬ va_A wc H.size q → T'.heap[q]? = H[q]? := fun q h1 h2 => by rw [e1]; exact hk q h1 h2
  obtain ⟨hP2, hD2⟩ := va_join (wr := isR.filterMap (fun i => ws[i]?)) (w1 := P q) hP hD isC isR hC (map_fm hI.2.2.2) hI.2.1 hI.2.2.1 hk1 hFc hP1 hD1
  obtain ⟨t2, a1, b1⟩ := kk q T'.heap (locs ++ L) hP2 hD2
    ⟨Nat.le_trans hS.1 hz, fun q h1 h2 => by rw [hk1 q (Nat.lt_of_lt_of_le h1 hS.1) (fun z => h2 (hFc q z))]; exact hS.2.1 q h1 h2, fun q hq => by
      rcases List.mem_append.mp hq with h | h
      · exact hS.2.2 q h
      · exact hFc _ (hL q h)⟩ T' rfl X'
  exact ⟨t2, stp t2 a1, b1⟩
def Ci (y : MethodName) (cy : ByteArray) (ny n : Nat) : Prop :=
  Cond.instanceMethod y ∈ W0 ∧ Cond.initialized y.cls ∈ W0 ∧ Cond.code y cy ny none ∈ W0 ∧ y.name = "<init>" ∧ (y.cls ≠ "java/lang/invoke/MethodHandle" ∧ y.cls ≠ "java/lang/invoke/VarHandle" ∧ (parseMethodDescriptor y.desc).map (fun d => d.parameters.length) = some n)
/-- a constructor is called -/
theorem k_i (F : CallFix p m c cc nL s args (x0 :: W0) own) (hNw : nwOk s) (hK : va_K D vwCl (ty0 cI cJ cB) s) (hP : va_P D vwCl ws H) (hD : va_D A ws) (hS : va_S A H0 H locs) (hA : ∀ q, H0.size ≤ q → A q)
    (hM : Mc l y cy ny rm D (ty0 cI cJ cB) (.ref b :: As) H.size wc P mc ms) (hl : Cond.methodLink own idx y ∈ W0) (cw : Ci y cy ny n)
    (isC isR : List Nat) (hI : va_nd isC = true ∧ va_nd isR = true ∧ (∀ i ∈ isR, i ∉ isC) ∧ isR.all (fun i => decide (i < ws.length)) = true) (hC : isC.map (fun i => ws[i]?) = wc.map some)
    (hn : As.length = n) (hrm : rm.cells = mc ∧ rm.slots = ms ∧ rm.frames + 1 ≤ R.frames ∧ 8 + (ny + 11) + rm.locals ≤ R.locals) (hsz : ls.size = nL) (hst : st = As.reverse ++ .ref b :: rest) (hrest : (rest.map fun v => v.category).sum ≤ 8)
    (hcs : cells + mc ≤ R.cells ∧ slots + ms ≤ R.slots) (hdg : decode cc pc = .ok (.invokespecial idx, 3))
    (kk : ∀ (q : Nat → Nat) (H1 : Heap) (locs1 : List Loc), va_P D vwCl (isR.filterMap (fun i => ws[i]?) ++ P q) H1 → va_D A (isR.filterMap (fun i => ws[i]?) ++ P q) → va_S A H0 H1 locs1 → W p l e R s m args below meth c H1 locs1 (cells + mc) (slots + ms) Q (F0 m (pc + 3) ls rest)) :
    W p l e R s m args below meth c H locs cells slots Q (F0 m pc ls st) := by
  have hPc := hP.sub (ws' := wc) isC (fm_map hC)
  have hDc := hD.sub (ws' := wc) isC hI.1 hC
  obtain ⟨c1, c2, c3, c4, c5⟩ := cw
  exact ka_tail (va_runI (As := As) (rest := rest) F hM (cwI n F.2.2.2.2 (q_g1 x0 c3) rfl hrm.1 hrm.2.1 (F.2.2.2.2 _ (q_in c2)) (F.2.2.2.2 _ (q_in hl)) (F.2.2.2.2 _ (q_in c1)) c4 c5 hrm.2.2)
    ⟨cPre.blind, fun U hU hW => ⟨rfl, by rw [hU], by rw [hU]; exact hPc, va_K.moved hW.alike hK, hDc.weaken (fun _ _ _ _ => trivial), hNw.warm hW⟩⟩
    rfl hn hsz hst (lv_room hrest) hdg hcs) hP hD hS hA isC isR hI hC kk
/-- a nest mate's private constructor is called -/
theorem k_iN (F : CallFix p m c cc nL s args (x0 :: W0) own) (hNw : nwOk s) (hK : va_K D vwCl (ty0 cI cJ cB) s) (hP : va_P D vwCl ws H) (hD : va_D A ws) (hS : va_S A H0 H locs) (hA : ∀ q, H0.size ≤ q → A q)
    (hM : Mc l y cy ny rm D (ty0 cI cJ cB) (.ref b :: As) H.size wc P mc ms) {host : String} (hl : (own, idx, y, host) ∈ NM) (cw : Ci y cy ny n)
    (isC isR : List Nat) (hI : va_nd isC = true ∧ va_nd isR = true ∧ (∀ i ∈ isR, i ∉ isC) ∧ isR.all (fun i => decide (i < ws.length)) = true) (hC : isC.map (fun i => ws[i]?) = wc.map some)
    (hn : As.length = n) (hrm : rm.cells = mc ∧ rm.slots = ms ∧ rm.frames + 1 ≤ R.frames ∧ 8 + (ny + 11) + rm.locals ≤ R.locals) (hsz : ls.size = nL) (hst : st = As.reverse ++ .ref b :: rest) (hrest : (rest.map fun v => v.category).sum ≤ 8)
    (hcs : cells + mc ≤ R.cells ∧ slots + ms ≤ R.slots) (hdg : decode cc pc = .ok (.invokespecial idx, 3))
    (kk : ∀ (q : Nat → Nat) (H1 : Heap) (locs1 : List Loc), va_P D vwCl (isR.filterMap (fun i => ws[i]?) ++ P q) H1 → va_D A (isR.filterMap (fun i => ws[i]?) ++ P q) → va_S A H0 H1 locs1 → W p l e R s m args below meth c H1 locs1 (cells + mc) (slots + ms) Q (F0 m (pc + 3) ls rest)) :
    W p l e R s m args below meth c H locs cells slots Q (F0 m pc ls st) := by
  have hPc := hP.sub (ws' := wc) isC (fm_map hC)
  have hDc := hD.sub (ws' := wc) isC hI.1 hC
  obtain ⟨c1, c2, c3, c4, c5⟩ := cw
  exact ka_tail (va_runIN (As := As) (rest := rest) F hM ⟨va_cnB n F.2.2.2.2 (q_g1 x0 c3) rfl hrm.1 hrm.2.1 (hNw.2 _ hl) (F.2.2.2.2 _ (q_in c2)) c5 hrm.2.2, c4, F.2.2.2.2 _ (q_in c1)⟩
    ⟨cPre.blind, fun U hU hW => ⟨rfl, by rw [hU], by rw [hU]; exact hPc, va_K.moved hW.alike hK, hDc.weaken (fun _ _ _ _ => trivial), hNw.warm hW⟩⟩
    rfl hn hsz hst (lv_room hrest) hdg hcs) hP hD hS hA isC isR hI hC kk
theorem r_aret (F : CallFix p m c cc nL s args (x0 :: W0) own) (hr : meth.sig.returnType = none) (hlk : meth.locks = false) (hdg : decode cc pc = .ok (.return_, 1)) {sz : Nat} (q : Nat → Nat) (hP : va_P D vwCl (P q) H) (hD : va_D (va_A ws0 sz) (P q)) (hS : va_S (va_A ws0 sz) s.heap H locs) :
    W p l e R s m args below meth c H locs cells slots (MQ below (aQ D sz ws0 P) args s cells slots (va_A ws0 sz)) (F0 m pc ls []) :=
  W.vret F.1 F.2.1 hr (fun t ht hW => ⟨q, rfl, by rw [ht]; exact hP, hD, hS.F ht⟩) hS.2.2 hdg hlk
end QNewRows
end QNew
