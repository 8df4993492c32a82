section QEx
/-- what a throw of the class's own needs beside the good words -/
def exC : List (String × String) := [("java/lang/IllegalArgumentException", "java/lang/IllegalArgumentException"), ("java/lang/UnsupportedOperationException", "java/lang/UnsupportedOperationException"), ("java/lang/IllegalStateException", "java/lang/IllegalStateException")]
def exD : List MethodName := [⟨"java/lang/RuntimeException", "<init>", "()V"⟩, ⟨"java/lang/RuntimeException", "<init>", "(Ljava/lang/String;)V"⟩, ⟨"java/lang/Exception", "<init>", "()V"⟩, ⟨"java/lang/Exception", "<init>", "(Ljava/lang/String;)V"⟩, ⟨"java/lang/Throwable", "<init>", "()V"⟩, ⟨"java/lang/Throwable", "<init>", "(Ljava/lang/String;)V"⟩]
def exNC : List (String × String) := [("java/lang/UnsupportedOperationException", "java/lang/IllegalArgumentException")]
def exS : List (Nat × String) := [(66, "n is not 0 .. 8"), (77, "the text would have more than 240 bytes"), (107, "no such variable"), (109, "above is not -99 .. 99"), (111, "below is not 1 .. 9"), (119, "the formula has E or A"), (166, "what is not 0 .. 5")]
def exOk (A : Nat → Prop) (U : State) : Prop := (vx_Zq Bundle.tN "UNASSIGNED_STACK" Bundle.steD A U U.heap ∧ vx_Zq Bundle.tN "SUPPRESSED_SENTINEL" Bundle.listD A U U.heap) ∧ (∀ q ∈ exS, ∃ sa : Nat, vk_R RX6 q.1 q.2 sa U) ∧ (∀ q ∈ exC, va_Nw (.castable q.1 q.2) U) ∧ (∀ x ∈ exD, va_Nw (.declares x) U) ∧ ∀ q ∈ exNC, va_Nc q.1 q.2 U
theorem exOk.call {A : Nat → Prop} {U : State} {g : JFrame} {mk : MethodId} {a : Array Value} (h : exOk A U) : exOk A (U.calling g mk a) :=
  ⟨⟨vx_Zq.moved (Vm.Alike.refl U.vm) h.1.1, vx_Zq.moved (Vm.Alike.refl U.vm) h.1.2⟩, fun q hq => (h.2.1 q hq).imp fun _ hs => vk_R.same rfl hs, fun q hq => va_Nw.same rfl rfl (h.2.2.1 q hq), fun x hx => va_Nw.same rfl rfl (h.2.2.2.1 x hx), fun q hq => va_Nc.moved (Vm.Alike.refl U.vm) (h.2.2.2.2 q hq)⟩
theorem exOk.to {A B : Nat → Prop} {s U : State} (hW : s.WarmedH U.vm) (hk : ∀ a : Nat, a < s.heap.size → ¬ A a → U.heap[a]? = s.heap[a]?) (hAB : ∀ q, B q → A q) (h : exOk A s) : exOk B U :=
  ⟨⟨vx_Zq.moved hW.alike ((vx_Zq.kept h.1.1 hk).narrow hAB), vx_Zq.moved hW.alike ((vx_Zq.kept h.1.2 hk).narrow hAB)⟩, fun q hq => (h.2.1 q hq).imp fun _ hs => vk_R.warm hW hs, fun q hq => va_Nw.warmC hW (h.2.2.1 q hq), fun x hx => va_Nw.warmD hW (h.2.2.2.1 x hx), fun q hq => va_Nc.moved hW.alike (h.2.2.2.2 q hq)⟩
def xPre (D : va_G) (tys : List (ClassId × FieldType)) (av : List Value) (sz : Nat) (ws : va_W) : Array Value → State → Prop :=
  va_Pc av (fun U => U.heap.size = sz ∧ va_P D vwCl ws U.heap ∧ va_K D vwCl tys U ∧ va_D (fun _ => True) ws ∧ nwOk U ∧ exOk (va_A ws sz) U)
theorem xPre.blind {D : va_G} {tys : List (ClassId × FieldType)} {av : List Value} {sz : Nat} {ws : va_W} : FrameBlind (xPre D tys av sz ws) := fun a U g mk q => by
  obtain ⟨q0, q1, qP, qK, qD, qN, qE⟩ := q
  exact ⟨q0, q1, qP, va_K.moved (u := U) (U := U.calling g mk a) (Vm.Alike.refl U.vm) qK, qD, qN.call, qE.call⟩
/-- where it has thrown cls: the world is ws1 -/
def tQ (D : va_G) (sz : Nat) (ws ws1 : va_W) (cls : String) : String → State → State → Prop := fun E st t => E = cls ∧ va_P D vwCl ws1 t.heap ∧ va_D (va_A ws sz) ws1 ∧ va_F (va_A ws sz) st t
/-- a contract: it throws cls; one cell of six slots comes -/
def Mx (l : Launch) (y : MethodName) (cc : ByteArray) (n : Nat) (rt : Option FieldType) (rm : Room) (D : va_G) (tys : List (ClassId × FieldType)) (av : List Value) (sz : Nat) (ws : va_W) (cls : String) (ws1 : va_W) : Prop :=
  vx_Met l y (wd y cc n rt) rm (xPre D tys av sz ws) (fun _ _ _ _ => False) (tQ D sz ws ws1 cls) 1 6 (va_A ws sz)
theorem Mx.of {l : Launch} {y : MethodName} {cc : ByteArray} {n : Nat} {rt : Option FieldType} {rm : Room} {D : va_G} {tys : List (ClassId × FieldType)} {av : List Value} {sz : Nat} {ws : va_W} {cls : String} {ws1 : va_W}
    (hy : plainName y.cls = true) (hle : (lg_sl av).length ≤ n)
    (body : ∀ (p : Program) (e : Env) (s : State) (m : MethodId) (below : List Frame) (meth : Method) (c : Code), Cx p m c cc n s av.toArray (Cond.code y cc n rt) y.cls meth rt → (∀ x ∈ c.exceptionTable.toList, False) → exOk (va_A ws sz) s → va_K D vwCl tys s → s.heap.size = sz → va_P D vwCl ws s.heap → va_D (va_A ws sz) ws →
      ∀ ls : Array Slot, lv_has ls n (lv_args 0 av) → W p l e rm s m av.toArray below meth c s.heap [] 0 0 (vx_MQ below (fun _ _ _ _ => False) (tQ D sz ws ws1 cls) av.toArray s 1 6 (va_A ws sz)) (F0 m 0 ls [])) :
    Mx l y cc n rt rm D tys av sz ws cls ws1 := by
  refine vx_ofW (cc := cc) (maxL := n) (ret := rt) hy rfl ?_
  intro p e s m args below meth c s₁ B hml htab hv
  obtain ⟨rfl, hsz, hP, hK, hD0, hN, hE⟩ := hv
  have hts := atoms_spec (ws := wd y cc n rt) B.pre
  have hown : s.vm.findClass y.cls = some m.cls := findClass_of_methodNamed B.named
  have hD := hD0.self (sz := sz)
  rw [lg_entry_eq]
  exact body p e s m below meth c ⟨⟨B.exec, B.bytes, hml, hown, hts⟩, B.returns, B.notSynchronized, hN⟩ htab hE hK hsz hP hD _ (lv_entry av hle)
/-- the words of a list out of the good ones and the two kinds beside them -/
def exIn (L : List Cond) : Bool := L.all (fun w => decide (w ∈ W0) || exC.any (fun q => decide (w = .castable q.1 q.2)) || exD.any (fun x => decide (w = .declares x)))
theorem ex_hat {x0 : Cond} {args : Array Value} {s : State} {A : Nat → Prop} {L : List Cond} (hts : ∀ w ∈ x0 :: W0, w.before args s = true) (hex : exOk A s) (hL : exIn L = true) : ∀ w ∈ L, w.before args s = true := by
  intro w hw
  have h1 := List.all_eq_true.mp hL w hw
  simp only [Bool.or_eq_true, decide_eq_true_eq, List.any_eq_true] at h1
  rcases h1 with (h1 | ⟨q, hq, rfl⟩) | ⟨x, hx, rfl⟩
  · exact hts w (q_in h1)
  · exact va_Nw.use rfl (hex.2.2.1 q hq)
  · exact va_Nw.use rfl (hex.2.2.2.1 x hx)
section QExRows
variable {p : Program} {l : Launch} {e : Env} {R : Room} {s : State} {m : MethodId} {args : Array Value} {below : List Frame} {meth : Method} {c : Code} {H : Heap} {locs : List Loc} {cells slots : Nat} {Q : State → Prop}
variable {cc : ByteArray} {pc nL idx : Nat} {ls : Array Slot} {rest st : List Value} {D : va_G} {A : Nat → Prop} {tys : List (ClassId × FieldType)} {ws wn ws0 ws1 : va_W} {H0 : Heap} {own C : String} {x0 : Cond}
variable {y : MethodName} {cy : ByteArray} {ny n : Nat} {rt : Option FieldType} {rm : Room} {b ci : Nat} {fs : List Value} {vc : vw_C} {As : List Value} {wc w1 : va_W}
/-- new, dup, ldc, invokespecial, athrow -/
theorem r_throw (F : CallFix p m c cc nL s args (x0 :: W0) RX6) (hlk : meth.locks = false) (hst : l.stackTraces = false) (htab : ∀ x ∈ c.exceptionTable.toList, False) {sz : Nat} (hex : exOk (va_A ws0 sz) s) {cls text : String} {ik is ic : Nat}
    (hcls : Bundle.fit cls = true) (hk : Cond.classLink RX6 ik cls ∈ W0) (hini : Cond.initialized cls ∈ W0) (hs : (is, text) ∈ exS) (hw : exIn (vx_atS RX6 ic cls ["java/lang/RuntimeException", "java/lang/Exception"]) = true)
    (hgood : ∀ w ∈ Cond.classLink RX6 ik cls :: Cond.initialized cls :: vx_atS RX6 ic cls ["java/lang/RuntimeException", "java/lang/Exception"], vx_ot w = true)
    (hP : va_P D vwCl ws1 H) (hD : va_D (va_A ws0 sz) ws1) (hS : va_S (va_A ws0 sz) s.heap H locs) (hsize : ls.size = nL)
    (d0 : decode cc pc = .ok (.new ik, 3)) (d3 : decode cc (pc + 3) = .ok (.dup, 1)) (d4 : decode cc (pc + 4) = .ok (.ldc is, 2)) (d6 : decode cc (pc + 6) = .ok (.invokespecial ic, 3)) (d9 : decode cc (pc + 9) = .ok (.athrow, 1))
    (hRf : 5 < R.frames) (hRl : 82 ≤ R.locals) (hRc : 1 ≤ R.cells) (hRs : 6 ≤ R.slots) :
    W p l e R s m args below meth c H locs 0 0 (vx_MQ below (fun _ _ _ _ => False) (tQ D sz ws0 ws1 cls) args s 1 6 (va_A ws0 sz)) (F0 m pc ls []) := by
  obtain ⟨sa, hsa⟩ := hex.2.1 _ hs
  refine vx_throwS (names := ["java/lang/RuntimeException", "java/lang/Exception"]) (A := va_A ws0 sz) F.1 F.2.1 hst F.2.2.2.1 hcls (by decide +kernel) (F.2.2.2.2 _ (q_in hk)) (F.2.2.2.2 _ (q_in hini)) hsa (ex_hat F.2.2.2.2 hex hw) hgood hex.1.1 hex.1.2 hS (hsize.trans F.2.2.1.symm) d0 d3 d4 d6 d9 (fun x hx => (htab x hx).elim) hRf hRl (by omega) (by omega) hlk ?_ hS.2.2 (by omega) (by omega)
  intro t hvm hz hk1
  refine ⟨rfl, hP.kept (fun k q hq => hk1 _ (hP k q hq).lt), hD, Nat.le_trans hS.1 hz, fun q h1 h2 => ?_⟩
  rw [hk1 q (Nat.lt_of_lt_of_le h1 hS.1)]
  exact hS.2.1 q h1 h2
/-- a call that throws -/
theorem k_vx {cls : String} (F : CallFix p m c cc nL s args (x0 :: W0) own) (hNw : nwOk s) (hex : exOk A s) (hK : va_K D vwCl tys s) (hP : va_P D vwCl ws H) (hD : va_D A ws) (hS : va_S A s.heap H locs) (hA : ∀ q, s.heap.size ≤ q → A q)
    (hM : Mx l y cy ny rt rm D tys (.ref b :: As) H.size wc cls w1) (hl : Cond.methodLink own idx y ∈ W0) (cw : Cv C y cy ny rt n)
    (isC isR isN : List Nat) (hI : Ix isC isR isN ws.length) (hC : isC.map (fun i => ws[i]?) = wc.map some) (hN : isN.map (fun i => (isR.filterMap (fun i => ws[i]?) ++ w1)[i]?) = wn.map some)
    (hrc : wc[0]? = some (b, .inr (ci, fs))) (hci : vwCl[ci]? = some vc) (hvc : vc.1 = C) (hn : As.length = n) (hrm : rm.cells = 1 ∧ rm.slots = 6 ∧ rm.frames + 1 ≤ R.frames ∧ 8 + (ny + 11) + rm.locals ≤ R.locals) (hsz : ls.size = nL) (hst : st = As.reverse ++ .ref b :: rest) (hrest : (rest.map fun v => v.category).sum ≤ 8)
    (hcs : cells + 1 ≤ R.cells ∧ slots + 6 ≤ R.slots) (hdg : decode cc pc = .ok (.invokevirtual idx, 3))
    (kx : ∀ (ce : Cell) (q9 : Addr) (H1 : Heap) (locs1 : List Loc), va_P D vwCl wn H1 → va_D A wn → va_S A s.heap H1 locs1 → H1[q9]? = some ce → ce.vm = .none → s.vm.findClass cls = some ce.cls → vx_W p l e R s m args below meth c H1 locs1 (cells + 1) (slots + 6) Q (F0 m pc ls rest) q9) :
    W p l e R s m args below meth c H locs cells slots Q (F0 m pc ls st) := by
  have hPc := hP.sub (ws' := wc) isC (fm_map hC)
  have hDc := hD.sub (ws' := wc) isC hI.1 hC
  have hFc := va_free (wc := wc) hD hS hA isC hC
  obtain ⟨c1, c2, c3, c4, c5⟩ := cw
  have hT : GoodIn (x0 :: W0) (wsV own idx C y (wd y cy ny rt)) := by
    unfold wsV
    refine q_app ?_ (q_g1 x0 c4)
    intro w hw
    simp only [List.mem_cons, List.not_mem_nil, or_false] at hw
    rcases hw with rfl | rfl | rfl | rfl
    · exact q_g0 x0 _ hl
    · exact q_g0 x0 _ c1
    · exact q_g0 x0 _ c2
    · exact q_g0 x0 _ c3
  subst hvc
  have run := vx_runV (p := p) (l := l) (e := e) (R := R) (s := s) (m := m) (args := args) (below := below) (meth := meth) (c := c) (H := H) (locs := locs) (cells := cells) (slots := slots) (As := As) (rest := rest) (g := F0 m pc ls st) F hM (cwV n F.2.2.2.2 hT rfl hrm.1 hrm.2.1 c5 hrm.2.2)
    ⟨xPre.blind, va_recv hK hPc hci hrc, fun U hU hW => ⟨rfl, by rw [hU], by rw [hU]; exact hPc, va_K.moved hW.alike hK, hDc.weaken (fun _ _ _ _ => trivial), hNw.warm hW, hex.to hW (fun a h1 h2 => by rw [hU]; exact hS.2.1 a h1 h2) (fun q hq => hFc q hq)⟩⟩
    rfl hn hsz hst (lv_room hrest) hdg hcs
  intro T hT0 X
  rcases run T hT0 X with ⟨v, st₀, t, T', L, h0, X', hL, e1, e2, hF, stp⟩ | ⟨q, st₀, t, T', L, E, ce, h0, X', hL, e1, e2, ⟨rfl, hP1, hD1, hz, hk⟩, hce, hcv, hcl, stp⟩
  · exact hF.elim
  · rw [h0] at hz hk
    rw [← e1] at hP1 hz hce
    have hk1 : ∀ q : Nat, q < H.size → ¬ va_A wc H.size q → T'.heap[q]? = H[q]? := fun q h1 h2 => by rw [e1]; exact hk q h1 h2
    obtain ⟨hP2, hD2⟩ := va_join (wr := isR.filterMap (fun i => ws[i]?)) (w1 := w1) hP hD isC isR hC (map_fm hI.2.2.2.2) hI.2.1 hI.2.2.2.1 hk1 hFc hP1 hD1
    obtain ⟨t2, a1, b1⟩ := kx ce q T'.heap (locs ++ L) (hP2.sub isN (fm_map hN)) (hD2.sub isN hI.2.2.1 hN)
      ⟨Nat.le_trans hS.1 hz, fun q h1 h2 => by rw [hk1 q (Nat.lt_of_lt_of_le h1 hS.1) (fun z => h2 (hFc q z))]; exact hS.2.1 q h1 h2, fun q hq => by
        rcases List.mem_append.mp hq with h | h
        · exact hS.2.2 q h
        · exact hFc _ (hL q h)⟩ hce hcv hcl T' rfl X'
    exact ⟨t2, stp.trans a1, b1⟩
end QExRows
theorem ex_in_I : exIn (vx_atS RX6 68 "java/lang/IllegalArgumentException" ["java/lang/RuntimeException", "java/lang/Exception"]) = true := by decide +kernel
theorem ex_in_U : exIn (vx_atS RX6 79 "java/lang/UnsupportedOperationException" ["java/lang/RuntimeException", "java/lang/Exception"]) = true := by decide +kernel
theorem ex_in_S : exIn (vx_atS RX6 121 "java/lang/IllegalStateException" ["java/lang/RuntimeException", "java/lang/Exception"]) = true := by decide +kernel
end QEx
