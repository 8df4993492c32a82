section QGrow
/-- how often an array of n numbers may still grow -/
def ph (n : Nat) : Nat := if 100000 ≤ n then 0 else if 50000 ≤ n then 1 else if 25000 ≤ n then 2 else if 12500 ≤ n then 3 else 4
theorem ph_le (n : Nat) : ph n ≤ 4 := by
  unfold ph
  split
  · omega
  · split
    · omega
    · split
      · omega
      · split <;> omega
/-- what comes of it never has more growing left than n -/
abbrev Mo {Z : Type} (n : Nat) (pr : Z → Nat) (o : Option Z) : Prop := ∀ z, o = some z → ph (pr z) ≤ ph n
theorem Mo.none {Z : Type} {n : Nat} {pr : Z → Nat} : Mo n pr (none : Option Z) := fun z h => by cases h
theorem Mo.some {Z : Type} {n : Nat} {pr : Z → Nat} {z : Z} (h : ph (pr z) ≤ ph n) : Mo n pr (some z) := fun y e => by cases e; exact h
theorem Mo.ifb {Z : Type} {n : Nat} {pr : Z → Nat} {c : Prop} [Decidable c] {a b : Option Z} (ha : Mo n pr a) (hb : Mo n pr b) : Mo n pr (ifb c a b) := fun z h => by
  by_cases hc : c
  · exact ha z (o_t hc h)
  · exact hb z (o_f hc h)
theorem Mo.ix {Z : Type} {n : Nat} {pr : Z → Nat} {i : Int32} {m : Nat} {a : Option Z} (ha : Mo n pr a) : Mo n pr (ix i m a) := fun z h => ha z (o_ix h).2
theorem Mo.ckp {Z : Type} {n : Nat} {pr : Z → Nat} {c : Prop} [Decidable c] {a : Option Z} (ha : Mo n pr a) : Mo n pr (ckp c a) := fun z h => ha z (o_c h).2
theorem Mo.bind {Z Y : Type} {n : Nat} {pr : Z → Nat} {o : Option Y} {k : Y → Option Z} (hk : ∀ y, o = .some y → Mo n pr (k y)) : Mo n pr (o.bind k) := fun z h => by
  obtain ⟨y, e, h⟩ := o_b h
  exact hk y e z h
theorem Mo.trans {Z : Type} {n n' : Nat} {pr : Z → Nat} {o : Option Z} (h : ph n' ≤ ph n) (ho : Mo n' pr o) : Mo n pr o := fun z e => Nat.le_trans (ho z e) h
/-- a contract that may make a cell, q being its address -/
def xQ (D : va_G) (sz : Nat) (ws : va_W) (P : Nat → va_W) (rv : Nat → Option Value) : Array Value → State → Outcome → State → Prop := fun _ st oc t =>
  ∃ q : Nat, oc = .returned (rv q) ∧ va_P D vwCl (P q) t.heap ∧ va_D (va_A ws sz) (P q) ∧ va_F (va_A ws sz) st t
def Mz (l : Launch) (y : MethodName) (cc : ByteArray) (n : Nat) (rt : Option FieldType) (rm : Room) (D : va_G) (tys : List (ClassId × FieldType)) (av : List Value) (sz : Nat) (ws : va_W) (rv : Nat → Option Value) (P : Nat → va_W) (mc ms : Nat) : Prop :=
  Met l y (wd y cc n rt) rm (cPre D tys av sz ws) (xQ D sz ws P rv) mc ms (va_A ws sz)
theorem Mz.of {l : Launch} {y : MethodName} {cc : ByteArray} {n : Nat} {rt : Option FieldType} {rm : Room} {D : va_G} {tys : List (ClassId × FieldType)} {av : List Value} {sz : Nat} {ws : va_W} {rv : Nat → Option Value} {P : Nat → va_W} {mc ms : Nat}
    (hy : plainName y.cls = true) (hle : (lg_sl av).length ≤ n)
    (body : ∀ (p : Program) (e : Env) (s : State) (m : MethodId) (below : List Frame) (meth : Method) (c : Code), Cx p m c cc n s av.toArray (Cond.code y cc n rt) y.cls meth rt → va_K D vwCl tys s → s.heap.size = sz → va_P D vwCl ws s.heap → va_D (va_A ws sz) ws →
      ∀ ls : Array Slot, lv_has ls n (lv_args 0 av) → W p l e rm s m av.toArray below meth c s.heap [] 0 0 (MQ below (xQ D sz ws P rv) av.toArray s mc ms (va_A ws sz)) (F0 m 0 ls [])) :
    Mz l y cc n rt rm D tys av sz ws rv P mc ms := by
  refine Met.ofW (cc := cc) (maxL := n) (ret := rt) hy rfl ?_
  intro p e s m args below meth c s₁ B hml hv
  obtain ⟨rfl, hsz, hP, hK, hD0, hN⟩ := hv
  have hts := atoms_spec (ws := wd y cc n rt) B.pre
  have hown : s.vm.findClass y.cls = some m.cls := findClass_of_methodNamed B.named
  have hD := hD0.self (sz := sz)
  rw [lg_entry_eq]
  exact body p e s m below meth c ⟨⟨B.exec, B.bytes, hml, hown, hts⟩, B.returns, B.notSynchronized, hN⟩ hK hsz hP hD _ (lv_entry av hle)
section QGrowRows
variable {p : Program} {l : Launch} {e : Env} {R : Room} {s : State} {m : MethodId} {args : Array Value} {below : List Frame} {meth : Method} {c : Code} {H : Heap} {locs : List Loc} {cells slots : Nat} {Q : State → Prop}
variable {cc : ByteArray} {pc nL idx : Nat} {ls : Array Slot} {rest st : List Value} {D : va_G} {A : Nat → Prop} {tys : List (ClassId × FieldType)} {ws ws0 : va_W} {H0 : Heap} {own C : String} {x0 : Cond} {cI cJ cB : ClassId}
variable {y : MethodName} {cy : ByteArray} {ny n N mc ms : Nat} {rt : Option FieldType} {rm : Room} {b ci : Nat} {fs : List Value} {vc : vw_C} {As : List Value} {rv : Nat → Option Value} {wc : va_W} {P wn : Nat → va_W}
theorem kz_tail (run : va_Run p l e R s m args below meth c H locs cells slots mc ms (F0 m pc ls st) rest (fun st0 oc t => xQ D H.size wc P rv #[] st0 oc t) (va_A wc H.size))
    (hP : va_P D vwCl ws H) (hD : va_D A ws) (hS : va_S A H0 H locs) (hA : ∀ q, H0.size ≤ q → A q) (isC isR isN : List Nat) (hI : Ix isC isR isN ws.length)
    (hC : isC.map (fun i => ws[i]?) = wc.map some) (hN : ∀ q, isN.map (fun i => (isR.filterMap (fun i => ws[i]?) ++ P q)[i]?) = (wn q).map some)
    (kk : ∀ (q : Nat) (H1 : Heap) (locs1 : List Loc), va_P D vwCl (wn q) H1 → va_D A (wn q) → va_S A H0 H1 locs1 → W p l e R s m args below meth c H1 locs1 (cells + mc) (slots + ms) Q (F0 m (pc + 3) ls ((rv q).toList ++ rest))) :
    W p l e R s m args below meth c H locs cells slots Q (F0 m pc ls st) := by
  have hFc := va_free (wc := wc) hD hS hA isC hC
  intro T hT0 X
  obtain ⟨v, st₀, t, T', L, h0, X', hL, e1, e2, ⟨q, hv, hP1, hD1, hz, hk⟩, stp⟩ := run T hT0 X
  cases hv
  rw [h0] at hz hk
  rw [← e1] at hP1 hz
  have hk1 : ∀ q : Nat, q < H.size → ¬ va_A wc H.size q → T'.heap[q]? = H[q]? := fun q h1 h2 => by rw [e1]; exact hk q h1 h2
  obtain ⟨hP2, hD2⟩ := va_join (wr := isR.filterMap (fun i => ws[i]?)) (w1 := P q) hP hD isC isR hC (map_fm hI.2.2.2.2) hI.2.1 hI.2.2.2.1 hk1 hFc hP1 hD1
  obtain ⟨t2, a1, b1⟩ := kk q T'.heap (locs ++ L) (hP2.sub isN (fm_map (hN q))) (hD2.sub isN hI.2.2.1 (hN q))
    ⟨Nat.le_trans hS.1 hz, fun q h1 h2 => by rw [hk1 q (Nat.lt_of_lt_of_le h1 hS.1) (fun z => h2 (hFc q z))]; exact hS.2.1 q h1 h2, fun q hq => by
      rcases List.mem_append.mp hq with h | h
      · exact hS.2.2 q h
      · exact hFc _ (hL q h)⟩ T' rfl X'
  exact ⟨t2, stp t2 a1, b1⟩
theorem kz_v (F : CallFix p m c cc nL s args (x0 :: W0) own) (hNw : nwOk s) (hK : va_K D vwCl tys s) (hP : va_P D vwCl ws H) (hD : va_D A ws) (hS : va_S A H0 H locs) (hA : ∀ q, H0.size ≤ q → A q)
    (hM : Mz l y cy ny rt rm D tys (.ref b :: As) H.size wc rv P mc ms) (hl : Cond.methodLink own idx y ∈ W0) (cw : Cv C y cy ny rt n)
    (isC isR isN : List Nat) (hI : Ix isC isR isN ws.length) (hC : isC.map (fun i => ws[i]?) = wc.map some) (hN : ∀ q, isN.map (fun i => (isR.filterMap (fun i => ws[i]?) ++ P q)[i]?) = (wn q).map some)
    (hrc : wc[0]? = some (b, .inr (ci, fs))) (hci : vwCl[ci]? = some vc) (hvc : vc.1 = C) (hn : As.length = n) (hrm : rm.cells = mc ∧ rm.slots = ms ∧ rm.frames + 1 ≤ R.frames ∧ 8 + (ny + 11) + rm.locals ≤ R.locals) (hsz : ls.size = nL) (hst : st = As.reverse ++ .ref b :: rest) (hrest : (rest.map fun v => v.category).sum ≤ 8)
    (hcs : cells + mc ≤ R.cells ∧ slots + ms ≤ R.slots) (hdg : decode cc pc = .ok (.invokevirtual idx, 3))
    (kk : ∀ (q : Nat) (H1 : Heap) (locs1 : List Loc), va_P D vwCl (wn q) H1 → va_D A (wn q) → va_S A H0 H1 locs1 → W p l e R s m args below meth c H1 locs1 (cells + mc) (slots + ms) Q (F0 m (pc + 3) ls ((rv q).toList ++ rest))) :
    W p l e R s m args below meth c H locs cells slots Q (F0 m pc ls st) := by
  have hPc := hP.sub (ws' := wc) isC (fm_map hC)
  have hDc := hD.sub (ws' := wc) isC hI.1 hC
  obtain ⟨c1, c2, c3, c4, c5⟩ := cw
  have hT : GoodIn (x0 :: W0) (wsV own idx C y (wd y cy ny rt)) := by
    unfold wsV
    refine q_app ?_ (q_g1 x0 c4)
    intro w hw
    simp only [List.mem_cons, List.not_mem_nil, or_false] at hw
    rcases hw with rfl | rfl | rfl | rfl
    · exact q_g0 x0 _ hl
    · exact q_g0 x0 _ c1
    · exact q_g0 x0 _ c2
    · exact q_g0 x0 _ c3
  subst hvc
  exact kz_tail (va_runV (As := As) (rest := rest) F hM (cwV n F.2.2.2.2 hT rfl hrm.1 hrm.2.1 c5 hrm.2.2)
    ⟨cPre.blind, va_recv hK hPc hci hrc, fun U hU hW => ⟨rfl, by rw [hU], by rw [hU]; exact hPc, va_K.moved hW.alike hK, hDc.weaken (fun _ _ _ _ => trivial), hNw.warm hW⟩⟩
    rfl hn hsz hst (lv_room hrest) hdg hcs) hP hD hS hA isC isR isN hI hC hN kk
theorem kz_s (F : CallFix p m c cc nL s args (x0 :: W0) own) (hNw : nwOk s) (hK : va_K D vwCl tys s) (hP : va_P D vwCl ws H) (hD : va_D A ws) (hS : va_S A H0 H locs) (hA : ∀ q, H0.size ≤ q → A q)
    (hM : Mz l y cy ny rt rm D tys As H.size wc rv P mc ms) (hl : Cond.methodLink own idx y ∈ W0) (cw : Cs y cy ny rt n)
    (isC isR isN : List Nat) (hI : Ix isC isR isN ws.length) (hC : isC.map (fun i => ws[i]?) = wc.map some) (hN : ∀ q, isN.map (fun i => (isR.filterMap (fun i => ws[i]?) ++ P q)[i]?) = (wn q).map some)
    (hn : As.length = n) (hrm : rm.cells = mc ∧ rm.slots = ms ∧ rm.frames + 1 ≤ R.frames ∧ 8 + (ny + 11) + rm.locals ≤ R.locals) (hsz : ls.size = nL) (hst : st = As.reverse ++ rest) (hrest : (rest.map fun v => v.category).sum ≤ 8)
    (hcs : cells + mc ≤ R.cells ∧ slots + ms ≤ R.slots) (hdg : decode cc pc = .ok (.invokestatic idx, 3))
    (kk : ∀ (q : Nat) (H1 : Heap) (locs1 : List Loc), va_P D vwCl (wn q) H1 → va_D A (wn q) → va_S A H0 H1 locs1 → W p l e R s m args below meth c H1 locs1 (cells + mc) (slots + ms) Q (F0 m (pc + 3) ls ((rv q).toList ++ rest))) :
    W p l e R s m args below meth c H locs cells slots Q (F0 m pc ls st) := by
  have hPc := hP.sub (ws' := wc) isC (fm_map hC)
  have hDc := hD.sub (ws' := wc) isC hI.1 hC
  obtain ⟨c1, c3, c4, c5⟩ := cw
  have hT : GoodIn (x0 :: W0) (va_wsS own idx y (wd y cy ny rt)) := by
    unfold va_wsS
    refine q_app ?_ (q_g1 x0 c4)
    intro w hw
    simp only [List.mem_cons, List.not_mem_nil, or_false] at hw
    rcases hw with rfl | rfl | rfl
    · exact q_g0 x0 _ hl
    · exact q_g0 x0 _ c1
    · exact q_g0 x0 _ c3
  exact kz_tail (va_runS (As := As) (rest := rest) F hM (va_cwS n F.2.2.2.2 hT rfl hrm.1 hrm.2.1 c5 hrm.2.2)
    ⟨cPre.blind, fun U hU hW => ⟨rfl, by rw [hU], by rw [hU]; exact hPc, va_K.moved hW.alike hK, hDc.weaken (fun _ _ _ _ => trivial), hNw.warm hW⟩⟩
    rfl hn hsz hst (lv_room hrest) hdg hcs) hP hD hS hA isC isR isN hI hC hN kk
theorem gA_eq {tys : List (ClassId × FieldType)} {U : State} {cA cI : ClassId} {k k2 : Nat} (h : va_K D vwCl tys U) (h1 : tys[k]? = some (cI, .int)) (h2 : tys[k2]? = some (cA, .int)) : cA = cI :=
  Option.some.inj ((h.2 k2 _ h2).2.symm.trans (h.2 k _ h1).2)
theorem g_newi (F : CallFix p m c cc nL s args (x0 :: W0) own) (hK : va_K D vwCl (ty0 cI cJ cB) s) (hP : va_P D vwCl ws H) (hD : va_D A ws) (hS : va_S A H0 H locs) (hA : ∀ q, H0.size ≤ q → A q) (hw : Cond.arrayClass .int ∈ W0) {k : Int32} (hn : ¬ k < 0) (hN : k.toNatClampNeg = N) (hbytes : N * 4 ≤ 536870912) (hcells : cells + 1 ≤ R.cells) (hslots : slots + N ≤ R.slots) (hdg : decode cc pc = .ok (.newarray .int, 2))
    (kk : ∀ (q : Nat) (H1 : Heap), va_P D vwCl (ws ++ [(q, .inl (cI, N, .inl (fun _ => 0)))]) H1 → va_D A (ws ++ [(q, .inl (cI, N, .inl (fun _ => 0)))]) → va_S A H0 H1 locs → W p l e R s m args below meth c H1 locs (cells + 1) (slots + N) Q (F0 m (pc + 2) ls (.ref q :: rest))) :
    W p l e R s m args below meth c H locs cells slots Q (F0 m pc ls (.int k :: rest)) := by
  refine va_newa (atype := .int) (ty := .int) (a0 := (N, .inl (fun _ => 0))) F.1 F.2.1 (F.2.2.2.2 _ (q_in hw)) rfl hK hP hD hS hA (fun cA => rfl) hn hN hbytes hcells hslots hdg ?_
  intro q cA H1 hK1 hP1 hD1 hS1
  have e1 : cA = cI := gA_eq hK1 (k := 0) (k2 := 3) rfl rfl
  subst e1
  exact kk q H1 hP1 hD1 hS1
theorem z_ret {v : Int32} {ty : FieldType} (F : CallFix p m c cc nL s args (x0 :: W0) own) (hr : meth.sig.returnType = some ty) (hlk : meth.locks = false) (hn : narrow ty (.int v) = .int v) (hdg : decode cc pc = .ok (.ireturn, 1)) {sz : Nat} (q : Nat) (hrv : rv q = some (.int v)) (hP : va_P D vwCl (P q) H) (hD : va_D (va_A ws0 sz) (P q)) (hS : va_S (va_A ws0 sz) s.heap H locs) :
    W p l e R s m args below meth c H locs cells slots (MQ below (xQ D sz ws0 P rv) args s cells slots (va_A ws0 sz)) (F0 m pc ls [.int v]) :=
  W.zret F.1 F.2.1 hr hn (fun t ht hW => ⟨q, by rw [hrv], by rw [ht]; exact hP, hD, hS.F ht⟩) hS.2.2 hdg hlk
theorem z_aret {a : Nat} {t : FieldType} (F : CallFix p m c cc nL s args (x0 :: W0) own) (hr : meth.sig.returnType = some (.array t)) (hlk : meth.locks = false) (hdg : decode cc pc = .ok (.areturn, 1)) {sz : Nat} (q : Nat) (hrv : rv q = some (.ref a)) (hP : va_P D vwCl (P q) H) (hD : va_D (va_A ws0 sz) (P q)) (hS : va_S (va_A ws0 sz) s.heap H locs) :
    W p l e R s m args below meth c H locs cells slots (MQ below (xQ D sz ws0 P rv) args s cells slots (va_A ws0 sz)) (F0 m pc ls [.ref a]) :=
  W.aret F.1 F.2.1 hr (Or.inr ⟨t, rfl⟩) (Or.inr ⟨a, rfl⟩) (fun t ht hW => ⟨q, by rw [hrv], by rw [ht]; exact hP, hD, hS.F ht⟩) hS.2.2 hdg hlk
end QGrowRows
end QGrow
