section QBase
/-- the tables' words that stay good over calls -/
def W0 : List Cond := lw_tbl.filter goodWord
theorem q_m {w : Cond} (i : Nat) (h : lw_tbl[i]? = some w) (hg : goodWord w = true) : w ∈ W0 := List.mem_filter.mpr ⟨List.mem_of_getElem? h, hg⟩
def tbs : List (List Cond) := [k2_sels lw_privs, tables_1_1, tables_1_2, tables_1_3, tables_1_4, tables_1_5, tables_1_6]
theorem tb_in {w : Cond} {j i : Nat} (h : (tbs[j]?).bind (fun t => t[i]?) = some w) : w ∈ lw_tbl := by
  obtain ⟨t, ht, hw⟩ := Option.bind_eq_some_iff.mp h
  have h3 : w ∈ tbs.flatten := List.mem_flatten.mpr ⟨t, List.mem_of_getElem? ht, List.mem_of_getElem? hw⟩
  have e : tbs.flatten = lw_tbl := by
    simp only [tbs, List.flatten_cons, List.flatten_nil, List.append_nil, lw_tbl, tables_1]
  exact e ▸ h3
theorem q_l {w : Cond} (j i : Nat) (h : (tbs[j]?).bind (fun t => t[i]?) = some w) (hg : goodWord w = true) : w ∈ W0 := List.mem_filter.mpr ⟨tb_in h, hg⟩
theorem q_ls {l : List Cond} (is : List (Nat × Nat)) (h : is.map (fun p => (tbs[p.1]?).bind (fun t => t[p.2]?)) = l.map some) (hg : l.all goodWord = true) : ∀ w ∈ l, w ∈ W0 := by
  intro w hw
  have h1 : some w ∈ l.map some := List.mem_map.mpr ⟨w, hw, rfl⟩
  rw [← h] at h1
  obtain ⟨p, _, e⟩ := List.mem_map.mp h1
  exact q_l p.1 p.2 e (List.all_eq_true.mp hg w hw)
theorem q_in {x w : Cond} (h : w ∈ W0) : w ∈ x :: W0 := List.mem_cons_of_mem _ h
theorem q_g0 (x : Cond) : GoodIn (x :: W0) W0 := fun w hw => ⟨q_in hw, good_of_word (List.mem_filter.mp hw).2⟩
theorem q_g1 (x : Cond) {k : Cond} (h : k ∈ W0) : GoodIn (x :: W0) (k :: W0) := fun w hw => (List.mem_cons.mp hw).elim (fun e => e ▸ q_g0 x k h) (q_g0 x w)
theorem q_app {big a b : List Cond} (ha : GoodIn big a) (hb : GoodIn big b) : GoodIn big (a ++ b) := fun w h => (List.mem_append.mp h).elim (ha w) (hb w)
abbrev wd (y : MethodName) (cc : ByteArray) (n : Nat) (r : Option FieldType) : List Cond := Cond.code y cc n r :: W0
def NF : List (String × Nat × String × String × String × String) := [("LinearTruths$Freer", 54, "LinearTruths$Tree", "rows", "I", "LinearTruths"), ("LinearTruths$Scribe", 37, "LinearTruths$Tree", "rows", "I", "LinearTruths"), ("LinearTruths$Bench", 54, "LinearTruths$Tree", "rows", "I", "LinearTruths"), ("LinearTruths", 104, "LinearTruths$Tree", "rows", "I", "LinearTruths"), ("LinearTruths$Freer", 61, "LinearTruths$Bench", "tree", "LLinearTruths$Tree;", "LinearTruths"), ("LinearTruths", 147, "LinearTruths$Bench", "tree", "LLinearTruths$Tree;", "LinearTruths"), ("LinearTruths$Bench", 57, "LinearTruths$Sum", "numbers", "[J", "LinearTruths"), ("LinearTruths", 88, "LinearTruths$Reader", "bench", "LLinearTruths$Bench;", "LinearTruths"), ("LinearTruths", 71, "LinearTruths$Reader", "length", "I", "LinearTruths"), ("LinearTruths", 103, "LinearTruths$Freer", "bench", "LLinearTruths$Bench;", "LinearTruths"), ("LinearTruths", 160, "LinearTruths$Freer", "pointsPut", "I", "LinearTruths"), ("LinearTruths", 163, "LinearTruths$Freer", "takenOut", "I", "LinearTruths"), ("LinearTruths", 172, "LinearTruths$Scribe", "length", "I", "LinearTruths")]
def NM : List (String × Nat × MethodName × String) := [("LinearTruths", 11, ⟨"LinearTruths$Reader", "<init>", "()V"⟩, "LinearTruths"), ("LinearTruths$Reader", 26, ⟨"LinearTruths$Sum", "<init>", "()V"⟩, "LinearTruths"), ("LinearTruths", 18, ⟨"LinearTruths$Freer", "<init>", "()V"⟩, "LinearTruths"), ("LinearTruths$Freer", 29, ⟨"LinearTruths$Sum", "<init>", "()V"⟩, "LinearTruths"), ("LinearTruths", 25, ⟨"LinearTruths$Scribe", "<init>", "()V"⟩, "LinearTruths")]
/-- the links among nest mates, which calls do not carry by themselves -/
def nwOk (U : State) : Prop := (∀ q ∈ NF, va_Nw (.fieldLinkNest q.1 q.2.1 q.2.2.1 q.2.2.2.1 q.2.2.2.2.1 q.2.2.2.2.2) U) ∧ ∀ q ∈ NM, va_Nw (.methodLinkNest q.1 q.2.1 q.2.2.1 q.2.2.2) U
theorem nwOk.warm {s U : State} (hW : s.WarmedH U.vm) (h : nwOk s) : nwOk U := ⟨fun q hq => va_Nw.warmF hW (h.1 q hq), fun q hq => va_Nw.warmM hW (h.2 q hq)⟩
theorem nwOk.call {U : State} {g : JFrame} {mk : MethodId} {a : Array Value} (h : nwOk U) : nwOk (U.calling g mk a) := ⟨fun q hq => va_Nw.same rfl rfl (h.1 q hq), fun q hq => va_Nw.same rfl rfl (h.2 q hq)⟩
def cPre (D : va_G) (tys : List (ClassId × FieldType)) (av : List Value) (sz : Nat) (ws : va_W) : Array Value → State → Prop :=
  va_Pc av (fun U => U.heap.size = sz ∧ va_P D vwCl ws U.heap ∧ va_K D vwCl tys U ∧ va_D (fun _ => True) ws ∧ nwOk U)
theorem cPre.blind {D : va_G} {tys : List (ClassId × FieldType)} {av : List Value} {sz : Nat} {ws : va_W} : FrameBlind (cPre D tys av sz ws) := fun a U g mk q => by
  obtain ⟨q0, q1, qP, qK, qD, qN⟩ := q
  exact ⟨q0, q1, qP, va_K.moved (u := U) (U := U.calling g mk a) (Vm.Alike.refl U.vm) qK, qD, qN.call⟩
def gQ (D : va_G) (sz : Nat) (ws ws1 : va_W) (rv : Option Value) : Array Value → State → Outcome → State → Prop := fun _ st oc t =>
  oc = .returned rv ∧ va_P D vwCl ws1 t.heap ∧ va_D (va_A ws sz) ws1 ∧ va_F (va_A ws sz) st t
/-- a contract: from the world ws and the arguments av: returns rv, the world is ws1; nothing is made -/
def Mg (l : Launch) (y : MethodName) (cc : ByteArray) (n : Nat) (rt : Option FieldType) (rm : Room) (D : va_G) (tys : List (ClassId × FieldType)) (av : List Value) (sz : Nat) (ws : va_W) (rv : Option Value) (ws1 : va_W) : Prop :=
  Met l y (wd y cc n rt) rm (cPre D tys av sz ws) (gQ D sz ws ws1 rv) 0 0 (va_A ws sz)
/-- what stays in a walk -/
def Cx (p : Program) (m : MethodId) (c : Code) (cc : ByteArray) (nL : Nat) (s : State) (args : Array Value) (x0 : Cond) (own : String) (meth : Method) (rt : Option FieldType) : Prop :=
  CallFix p m c cc nL s args (x0 :: W0) own ∧ meth.sig.returnType = rt ∧ meth.locks = false ∧ nwOk s
theorem Mg.of {l : Launch} {y : MethodName} {cc : ByteArray} {n : Nat} {rt : Option FieldType} {rm : Room} {D : va_G} {tys : List (ClassId × FieldType)} {av : List Value} {sz : Nat} {ws : va_W} {rv : Option Value} {ws1 : va_W}
    (hy : plainName y.cls = true) (hle : (lg_sl av).length ≤ n)
    (body : ∀ (p : Program) (e : Env) (s : State) (m : MethodId) (below : List Frame) (meth : Method) (c : Code), Cx p m c cc n s av.toArray (Cond.code y cc n rt) y.cls meth rt → va_K D vwCl tys s → s.heap.size = sz → va_P D vwCl ws s.heap → va_D (va_A ws sz) ws →
      ∀ ls : Array Slot, lv_has ls n (lv_args 0 av) → W p l e rm s m av.toArray below meth c s.heap [] 0 0 (MQ below (gQ D sz ws ws1 rv) av.toArray s 0 0 (va_A ws sz)) (F0 m 0 ls [])) :
    Mg l y cc n rt rm D tys av sz ws rv ws1 := by
  refine Met.ofW (cc := cc) (maxL := n) (ret := rt) hy rfl ?_
  intro p e s m args below meth c s₁ B hml hv
  obtain ⟨rfl, hsz, hP, hK, hD0, hN⟩ := hv
  have hts := atoms_spec (ws := wd y cc n rt) B.pre
  have hown : s.vm.findClass y.cls = some m.cls := findClass_of_methodNamed B.named
  have hD := hD0.self (sz := sz)
  rw [lg_entry_eq]
  exact body p e s m below meth c ⟨⟨B.exec, B.bytes, hml, hown, hts⟩, B.returns, B.notSynchronized, hN⟩ hK hsz hP hD _ (lv_entry av hle)
theorem fm_map {α β : Type} {f : α → Option β} : ∀ {is : List α} {ws : List β}, is.map f = ws.map some → is.filterMap f = ws
  | [], [], _ => rfl
  | [], _ :: _, h => by cases h
  | _ :: _, [], h => by cases h
  | i :: is, w :: ws, h => by
    rw [List.map_cons, List.map_cons] at h
    injection h with h1 h2
    rw [List.filterMap_cons, h1, fm_map h2]
theorem map_fm {β : Type} {ws : List β} : ∀ {is : List Nat}, is.all (fun i => decide (i < ws.length)) = true → is.map (fun i => ws[i]?) = (is.filterMap (fun i => ws[i]?)).map some
  | [], _ => rfl
  | i :: is, h => by
    rw [List.all_cons, Bool.and_eq_true, decide_eq_true_eq] at h
    have e : ws[i]? = some ws[i] := List.getElem?_eq_getElem h.1
    rw [List.map_cons, List.filterMap_cons, e, List.map_cons, map_fm h.2]
def Cv (C : String) (y : MethodName) (cy : ByteArray) (ny : Nat) (rt : Option FieldType) (n : Nat) : Prop :=
  Cond.instanceMethod y ∈ W0 ∧ Cond.selects C y y ∈ W0 ∧ Cond.initialized C ∈ W0 ∧ Cond.code y cy ny rt ∈ W0 ∧ (y.cls = C ∧ y.cls ≠ "java/lang/invoke/MethodHandle" ∧ y.cls ≠ "java/lang/invoke/VarHandle" ∧ (parseMethodDescriptor y.desc).map (fun d => d.parameters.length) = some n)
def Cs (y : MethodName) (cy : ByteArray) (ny : Nat) (rt : Option FieldType) (n : Nat) : Prop :=
  Cond.static y ∈ W0 ∧ Cond.initialized y.cls ∈ W0 ∧ Cond.code y cy ny rt ∈ W0 ∧ (y.cls ≠ "java/lang/invoke/MethodHandle" ∧ y.cls ≠ "java/lang/invoke/VarHandle" ∧ (parseMethodDescriptor y.desc).map (fun d => d.parameters.length) = some n)
/-- indices of ws: the callee's cells isC, the rest isR, isN puts them back in order -/
def Ix (isC isR isN : List Nat) (n : Nat) : Prop := va_nd isC = true ∧ va_nd isR = true ∧ va_nd isN = true ∧ (∀ i ∈ isR, i ∉ isC) ∧ isR.all (fun i => decide (i < n)) = true
def Rm (rm R : Room) (ny : Nat) : Prop := rm.cells = 0 ∧ rm.slots = 0 ∧ rm.frames + 1 ≤ R.frames ∧ 8 + (ny + 11) + rm.locals ≤ R.locals
section QCall
variable {p : Program} {l : Launch} {e : Env} {R : Room} {s : State} {m : MethodId} {args : Array Value} {below : List Frame} {meth : Method} {c : Code} {H : Heap} {locs : List Loc} {cells slots : Nat} {Q : State → Prop}
variable {cc : ByteArray} {pc nL idx : Nat} {ls : Array Slot} {rest st : List Value} {D : va_G} {A : Nat → Prop} {tys : List (ClassId × FieldType)} {ws : va_W} {H0 : Heap} {own C : String} {x0 : Cond}
variable {y : MethodName} {cy : ByteArray} {ny n : Nat} {rt : Option FieldType} {rm : Room} {b ci : Nat} {fs : List Value} {vc : vw_C} {As : List Value} {rv : Option Value} {wc w1 wn : va_W}
theorem k_tail (run : va_Run p l e R s m args below meth c H locs cells slots 0 0 (F0 m pc ls st) rest (fun st0 oc t => gQ D H.size wc w1 rv #[] st0 oc t) (va_A wc H.size))
    (hP : va_P D vwCl ws H) (hD : va_D A ws) (hS : va_S A H0 H locs) (hA : ∀ q, H0.size ≤ q → A q) (isC isR isN : List Nat) (hI : Ix isC isR isN ws.length)
    (hC : isC.map (fun i => ws[i]?) = wc.map some) (hN : isN.map (fun i => (isR.filterMap (fun i => ws[i]?) ++ w1)[i]?) = wn.map some)
    (kk : ∀ (H1 : Heap) (locs1 : List Loc), va_P D vwCl wn H1 → va_D A wn → va_S A H0 H1 locs1 → W p l e R s m args below meth c H1 locs1 cells slots Q (F0 m (pc + 3) ls (rv.toList ++ rest))) :
    W p l e R s m args below meth c H locs cells slots Q (F0 m pc ls st) := by
  have hFc := va_free (wc := wc) hD hS hA isC hC
  intro T hT0 X
  obtain ⟨v, st₀, t, T', L, h0, X', hL, e1, e2, ⟨hv, hP1, hD1, hz, hk⟩, stp⟩ := run T hT0 X
  cases hv
  rw [h0] at hz hk
  rw [← e1] at hP1 hz
  have hk1 : ∀ q : Nat, q < H.size → ¬ va_A wc H.size q → T'.heap[q]? = H[q]? := fun q h1 h2 => by rw [e1]; exact hk q h1 h2
  obtain ⟨hP2, hD2⟩ := va_join (wr := isR.filterMap (fun i => ws[i]?)) (w1 := w1) hP hD isC isR hC (map_fm hI.2.2.2.2) hI.2.1 hI.2.2.2.1 hk1 hFc hP1 hD1
  obtain ⟨t2, a1, b1⟩ := kk T'.heap (locs ++ L) (hP2.sub isN (fm_map hN)) (hD2.sub isN hI.2.2.1 hN)
    ⟨Nat.le_trans hS.1 hz, fun q h1 h2 => by rw [hk1 q (Nat.lt_of_lt_of_le h1 hS.1) (fun z => h2 (hFc q z))]; exact hS.2.1 q h1 h2, fun q hq => by
      rcases List.mem_append.mp hq with h | h
      · exact hS.2.2 q h
      · exact hFc _ (hL q h)⟩ T' rfl X'
  exact ⟨t2, stp t2 a1, b1⟩
theorem k_v (F : CallFix p m c cc nL s args (x0 :: W0) own) (hNw : nwOk s) (hK : va_K D vwCl tys s) (hP : va_P D vwCl ws H) (hD : va_D A ws) (hS : va_S A H0 H locs) (hA : ∀ q, H0.size ≤ q → A q)
    (hM : Mg l y cy ny rt rm D tys (.ref b :: As) H.size wc rv w1) (hl : Cond.methodLink own idx y ∈ W0) (cw : Cv C y cy ny rt n)
    (isC isR isN : List Nat) (hI : Ix isC isR isN ws.length) (hC : isC.map (fun i => ws[i]?) = wc.map some) (hN : isN.map (fun i => (isR.filterMap (fun i => ws[i]?) ++ w1)[i]?) = wn.map some)
    (hrc : wc[0]? = some (b, .inr (ci, fs))) (hci : vwCl[ci]? = some vc) (hvc : vc.1 = C) (hn : As.length = n) (hrm : Rm rm R ny) (hsz : ls.size = nL) (hst : st = As.reverse ++ .ref b :: rest) (hrest : (rest.map fun v => v.category).sum ≤ 8)
    (hcs : cells ≤ R.cells ∧ slots ≤ R.slots) (hdg : decode cc pc = .ok (.invokevirtual idx, 3))
    (kk : ∀ (H1 : Heap) (locs1 : List Loc), va_P D vwCl wn H1 → va_D A wn → va_S A H0 H1 locs1 → W p l e R s m args below meth c H1 locs1 cells slots Q (F0 m (pc + 3) ls (rv.toList ++ rest))) :
    W p l e R s m args below meth c H locs cells slots Q (F0 m pc ls st) := by
  have hPc := hP.sub (ws' := wc) isC (fm_map hC)
  have hDc := hD.sub (ws' := wc) isC hI.1 hC
  obtain ⟨c1, c2, c3, c4, c5⟩ := cw
  have hT : GoodIn (x0 :: W0) (wsV own idx C y (wd y cy ny rt)) := by
    unfold wsV
    refine q_app ?_ (q_g1 x0 c4)
    intro w hw
    simp only [List.mem_cons, List.not_mem_nil, or_false] at hw
    rcases hw with rfl | rfl | rfl | rfl
    · exact q_g0 x0 _ hl
    · exact q_g0 x0 _ c1
    · exact q_g0 x0 _ c2
    · exact q_g0 x0 _ c3
  subst hvc
  exact k_tail (va_runV (As := As) (rest := rest) F hM (cwV n F.2.2.2.2 hT rfl hrm.1 hrm.2.1 c5 hrm.2.2)
    ⟨cPre.blind, va_recv hK hPc hci hrc, fun U hU hW => ⟨rfl, by rw [hU], by rw [hU]; exact hPc, va_K.moved hW.alike hK, hDc.weaken (fun _ _ _ _ => trivial), hNw.warm hW⟩⟩
    rfl hn hsz hst (lv_room hrest) hdg hcs) hP hD hS hA isC isR isN hI hC hN kk
theorem k_s (F : CallFix p m c cc nL s args (x0 :: W0) own) (hNw : nwOk s) (hK : va_K D vwCl tys s) (hP : va_P D vwCl ws H) (hD : va_D A ws) (hS : va_S A H0 H locs) (hA : ∀ q, H0.size ≤ q → A q)
    (hM : Mg l y cy ny rt rm D tys As H.size wc rv w1) (hl : Cond.methodLink own idx y ∈ W0) (cw : Cs y cy ny rt n)
    (isC isR isN : List Nat) (hI : Ix isC isR isN ws.length) (hC : isC.map (fun i => ws[i]?) = wc.map some) (hN : isN.map (fun i => (isR.filterMap (fun i => ws[i]?) ++ w1)[i]?) = wn.map some)
    (hn : As.length = n) (hrm : Rm rm R ny) (hsz : ls.size = nL) (hst : st = As.reverse ++ rest) (hrest : (rest.map fun v => v.category).sum ≤ 8)
    (hcs : cells ≤ R.cells ∧ slots ≤ R.slots) (hdg : decode cc pc = .ok (.invokestatic idx, 3))
    (kk : ∀ (H1 : Heap) (locs1 : List Loc), va_P D vwCl wn H1 → va_D A wn → va_S A H0 H1 locs1 → W p l e R s m args below meth c H1 locs1 cells slots Q (F0 m (pc + 3) ls (rv.toList ++ rest))) :
    W p l e R s m args below meth c H locs cells slots Q (F0 m pc ls st) := by
  have hPc := hP.sub (ws' := wc) isC (fm_map hC)
  have hDc := hD.sub (ws' := wc) isC hI.1 hC
  obtain ⟨c1, c3, c4, c5⟩ := cw
  have hT : GoodIn (x0 :: W0) (va_wsS own idx y (wd y cy ny rt)) := by
    unfold va_wsS
    refine q_app ?_ (q_g1 x0 c4)
    intro w hw
    simp only [List.mem_cons, List.not_mem_nil, or_false] at hw
    rcases hw with rfl | rfl | rfl
    · exact q_g0 x0 _ hl
    · exact q_g0 x0 _ c1
    · exact q_g0 x0 _ c3
  exact k_tail (va_runS (As := As) (rest := rest) F hM (va_cwS n F.2.2.2.2 hT rfl hrm.1 hrm.2.1 c5 hrm.2.2)
    ⟨cPre.blind, fun U hU hW => ⟨rfl, by rw [hU], by rw [hU]; exact hPc, va_K.moved hW.alike hK, hDc.weaken (fun _ _ _ _ => trivial), hNw.warm hW⟩⟩
    rfl hn hsz hst (lv_room hrest) hdg hcs) hP hD hS hA isC isR isN hI hC hN kk
end QCall
section QRows
variable {p : Program} {l : Launch} {e : Env} {R : Room} {s : State} {m : MethodId} {args : Array Value} {below : List Frame} {meth : Method} {c : Code} {H : Heap} {locs : List Loc} {cells slots : Nat} {Q : State → Prop}
variable {cc : ByteArray} {pc nL idx : Nat} {ls : Array Slot} {rest st : List Value} {D : va_G} {A : Nat → Prop} {tys : List (ClassId × FieldType)} {ws wn ws0 : va_W} {H0 : Heap} {own C : String} {x0 : Cond} {T : u_T} {N a ci : Nat} {fs : List Value} {v : Value} {rt : Option FieldType}
/-- a field is read -/
theorem r_get (F : CallFix p m c cc nL s args (x0 :: W0) own) (hK : va_K D vwCl tys s) (hP : va_P D vwCl ws H) (q0 k : Nat) (hc : vwCl[ci]? = some (C, T, N)) (hin : ∀ w ∈ u_ws C T N, w ∈ W0) (hl : Cond.fieldLink own idx (T k).1 (T k).2.1 (T k).2.2.1 ∈ W0)
    (he : ws[q0]? = some (a, .inr (ci, fs))) (hk : k < N) (hv : fs[k]? = some v) (hdg : decode cc pc = .ok (.getfield idx, 3))
    (kk : W p l e R s m args below meth c H locs cells slots Q (F0 m (pc + 3) ls (v :: rest))) : W p l e R s m args below meth c H locs cells slots Q (F0 m pc ls (.ref a :: rest)) :=
  va_get F.1 F.2.1 F.2.2.2.2 (fun w h => q_in (hin w h)) F.2.2.2.1 hK hP q0 he hc k hk (F.2.2.2.2 _ (q_in hl)) (fun _ h => h) hv hdg kk
theorem r_getN (F : CallFix p m c cc nL s args (x0 :: W0) own) (hNw : nwOk s) (hK : va_K D vwCl tys s) (hP : va_P D vwCl ws H) (q0 k : Nat) (hc : vwCl[ci]? = some (C, T, N)) (hin : ∀ w ∈ u_ws C T N, w ∈ W0) {host : String} (hl : (own, idx, (T k).1, (T k).2.1, (T k).2.2.1, host) ∈ NF)
    (he : ws[q0]? = some (a, .inr (ci, fs))) (hk : k < N) (hv : fs[k]? = some v) (hdg : decode cc pc = .ok (.getfield idx, 3))
    (kk : W p l e R s m args below meth c H locs cells slots Q (F0 m (pc + 3) ls (v :: rest))) : W p l e R s m args below meth c H locs cells slots Q (F0 m pc ls (.ref a :: rest)) :=
  va_getN F.1 F.2.1 F.2.2.2.2 (fun w h => q_in (hin w h)) F.2.2.2.1 hK hP q0 he hc k hk (va_Nw.use rfl (hNw.1 _ hl)) (fun _ h => h) hv hdg kk
/-- a field is written -/
theorem r_put (F : CallFix p m c cc nL s args (x0 :: W0) own) (hK : va_K D vwCl tys s) (hP : va_P D vwCl ws H) (hD : va_D A ws) (hS : va_S A H0 H locs) (q0 k : Nat) (hc : vwCl[ci]? = some (C, T, N)) (hin : ∀ w ∈ u_ws C T N, w ∈ W0) (hl : Cond.fieldLink own idx (T k).1 (T k).2.1 (T k).2.2.1 ∈ W0)
    {ty0 : Nat → FieldType} (hty : ∀ k, k < N → parseFieldDescriptor (T k).2.2.1 = some (ty0 k)) (hnm : ∀ a, a < N → ∀ b, b < N → a ≠ b → (T a).2.1 ≠ (T b).2.1) (hfin : (T k).2.2.2 = false)
    (he : ws[q0]? = some (a, .inr (ci, fs))) (hk : k < N) (hn : narrow (ty0 k) v = v) (hfit : fits (ty0 k) v = true) (hkl : k < fs.length) (hw : ws.set q0 (a, .inr (ci, fs.set k v)) = wn) (hdg : decode cc pc = .ok (.putfield idx, 3))
    (kk : ∀ (H1 : Heap) (locs1 : List Loc), va_P D vwCl wn H1 → va_D A wn → va_S A H0 H1 locs1 → W p l e R s m args below meth c H1 locs1 cells slots Q (F0 m (pc + 3) ls rest)) : W p l e R s m args below meth c H locs cells slots Q (F0 m pc ls (v :: .ref a :: rest)) :=
  va_put F.1 F.2.1 F.2.2.2.2 (fun w h => q_in (hin w h)) ty0 hty hnm F.2.2.2.1 hK hP hD hS q0 he hc k hk (F.2.2.2.2 _ (q_in hl)) (fun _ h => h) hfin (hty k hk) hn hfit hkl hdg (fun H1 locs1 a1 a2 a3 => kk H1 locs1 (hw ▸ a1) (hw ▸ a2) a3)
theorem r_putN (F : CallFix p m c cc nL s args (x0 :: W0) own) (hNw : nwOk s) (hK : va_K D vwCl tys s) (hP : va_P D vwCl ws H) (hD : va_D A ws) (hS : va_S A H0 H locs) (q0 k : Nat) (hc : vwCl[ci]? = some (C, T, N)) (hin : ∀ w ∈ u_ws C T N, w ∈ W0) {host : String} (hl : (own, idx, (T k).1, (T k).2.1, (T k).2.2.1, host) ∈ NF)
    {ty0 : Nat → FieldType} (hty : ∀ k, k < N → parseFieldDescriptor (T k).2.2.1 = some (ty0 k)) (hnm : ∀ a, a < N → ∀ b, b < N → a ≠ b → (T a).2.1 ≠ (T b).2.1) (hfin : (T k).2.2.2 = false)
    (he : ws[q0]? = some (a, .inr (ci, fs))) (hk : k < N) (hn : narrow (ty0 k) v = v) (hfit : fits (ty0 k) v = true) (hkl : k < fs.length) (hw : ws.set q0 (a, .inr (ci, fs.set k v)) = wn) (hdg : decode cc pc = .ok (.putfield idx, 3))
    (kk : ∀ (H1 : Heap) (locs1 : List Loc), va_P D vwCl wn H1 → va_D A wn → va_S A H0 H1 locs1 → W p l e R s m args below meth c H1 locs1 cells slots Q (F0 m (pc + 3) ls rest)) : W p l e R s m args below meth c H locs cells slots Q (F0 m pc ls (v :: .ref a :: rest)) :=
  va_putN F.1 F.2.1 F.2.2.2.2 (fun w h => q_in (hin w h)) ty0 hty hnm F.2.2.2.1 hK hP hD hS q0 he hc k hk (va_Nw.use rfl (hNw.1 _ hl)) (fun _ h => h) hfin (hty k hk) hn hfit hkl hdg (fun H1 locs1 a1 a2 a3 => kk H1 locs1 (hw ▸ a1) (hw ▸ a2) a3)
theorem r_iast (F : CallFix p m c cc nL s args (x0 :: W0) own) (hK : va_K D vwCl tys s) (hP : va_P D vwCl ws H) (hD : va_D A ws) (hS : va_S A H0 H locs) (q0 t0 : Nat) {cA : ClassId} {n : Nat} {f : Nat → Int32} {i x : Int32} (hin : vp_in i n)
    (ha : ws[q0]? = some (a, .inl (cA, n, .inl f))) (ht : tys[t0]? = some (cA, .int)) (hw : ws.set q0 (a, .inl (cA, n, .inl (upd f i.toNatClampNeg x))) = wn) (hdg : decode cc pc = .ok (.iastore, 1))
    (kk : ∀ (H1 : Heap) (locs1 : List Loc), va_P D vwCl wn H1 → va_D A wn → va_S A H0 H1 locs1 → W p l e R s m args below meth c H1 locs1 cells slots Q (F0 m (pc + 1) ls rest)) : W p l e R s m args below meth c H locs cells slots Q (F0 m pc ls (.int x :: .int i :: .ref a :: rest)) :=
  va_iast F.1 F.2.1 hK hP hD hS q0 t0 ha ht hin hdg (fun H1 locs1 a1 a2 a3 => kk H1 locs1 (hw ▸ a1) (hw ▸ a2) a3)
theorem r_bast (F : CallFix p m c cc nL s args (x0 :: W0) own) (hK : va_K D vwCl tys s) (hP : va_P D vwCl ws H) (hD : va_D A ws) (hS : va_S A H0 H locs) (q0 t0 : Nat) {cA : ClassId} {n : Nat} {f : Nat → Int32} {i x : Int32} (hin : vp_in i n)
    (ha : ws[q0]? = some (a, .inl (cA, n, .inl f))) (ht : tys[t0]? = some (cA, .byte)) (hw : ws.set q0 (a, .inl (cA, n, .inl (upd f i.toNatClampNeg (vp_nar .byte x)))) = wn) (hdg : decode cc pc = .ok (.bastore, 1))
    (kk : ∀ (H1 : Heap) (locs1 : List Loc), va_P D vwCl wn H1 → va_D A wn → va_S A H0 H1 locs1 → W p l e R s m args below meth c H1 locs1 cells slots Q (F0 m (pc + 1) ls rest)) : W p l e R s m args below meth c H locs cells slots Q (F0 m pc ls (.int x :: .int i :: .ref a :: rest)) :=
  va_bast F.1 F.2.1 hK hP hD hS q0 t0 ha ht hin hdg (fun H1 locs1 a1 a2 a3 => kk H1 locs1 (hw ▸ a1) (hw ▸ a2) a3)
theorem r_last (F : CallFix p m c cc nL s args (x0 :: W0) own) (hK : va_K D vwCl tys s) (hP : va_P D vwCl ws H) (hD : va_D A ws) (hS : va_S A H0 H locs) (q0 t0 : Nat) {cA : ClassId} {n : Nat} {f : Nat → Int64} {i : Int32} {x : Int64} (hin : vp_in i n)
    (ha : ws[q0]? = some (a, .inl (cA, n, .inr (.inl f)))) (ht : tys[t0]? = some (cA, .long)) (hw : ws.set q0 (a, .inl (cA, n, .inr (.inl (vp_updL f i.toNatClampNeg x)))) = wn) (hdg : decode cc pc = .ok (.lastore, 1))
    (kk : ∀ (H1 : Heap) (locs1 : List Loc), va_P D vwCl wn H1 → va_D A wn → va_S A H0 H1 locs1 → W p l e R s m args below meth c H1 locs1 cells slots Q (F0 m (pc + 1) ls rest)) : W p l e R s m args below meth c H locs cells slots Q (F0 m pc ls (.long x :: .int i :: .ref a :: rest)) :=
  va_last F.1 F.2.1 hK hP hD hS q0 t0 ha ht hin hdg (fun H1 locs1 a1 a2 a3 => kk H1 locs1 (hw ▸ a1) (hw ▸ a2) a3)
/-- the ends -/
theorem r_ret {v : Int32} {ty : FieldType} (F : CallFix p m c cc nL s args (x0 :: W0) own) (hr : meth.sig.returnType = some ty) (hlk : meth.locks = false) (hn : narrow ty (.int v) = .int v) (hdg : decode cc pc = .ok (.ireturn, 1)) {sz : Nat} (hsz : s.heap.size = sz) (hP : va_P D vwCl ws H) (hD : va_D (va_A ws0 sz) ws) (hS : va_S (va_A ws0 sz) s.heap H locs) :
    W p l e R s m args below meth c H locs cells slots (MQ below (gQ D sz ws0 ws (some (.int v))) args s cells slots (va_A ws0 sz)) (F0 m pc ls [.int v]) :=
  W.zret F.1 F.2.1 hr hn (fun t ht hW => ⟨rfl, by rw [ht]; exact hP, hD, hS.F ht⟩) hS.2.2 hdg hlk
theorem r_lret {v : Int64} (F : CallFix p m c cc nL s args (x0 :: W0) own) (hr : meth.sig.returnType = some .long) (hlk : meth.locks = false) (hdg : decode cc pc = .ok (.lreturn, 1)) {sz : Nat} (hsz : s.heap.size = sz) (hP : va_P D vwCl ws H) (hD : va_D (va_A ws0 sz) ws) (hS : va_S (va_A ws0 sz) s.heap H locs) :
    W p l e R s m args below meth c H locs cells slots (MQ below (gQ D sz ws0 ws (some (.long v))) args s cells slots (va_A ws0 sz)) (F0 m pc ls [.long v]) :=
  W.lret F.1 F.2.1 hr (fun t ht hW => ⟨rfl, by rw [ht]; exact hP, hD, hS.F ht⟩) hS.2.2 hdg hlk
theorem r_vret (F : CallFix p m c cc nL s args (x0 :: W0) own) (hr : meth.sig.returnType = none) (hlk : meth.locks = false) (hdg : decode cc pc = .ok (.return_, 1)) {sz : Nat} (hsz : s.heap.size = sz) (hP : va_P D vwCl ws H) (hD : va_D (va_A ws0 sz) ws) (hS : va_S (va_A ws0 sz) s.heap H locs) :
    W p l e R s m args below meth c H locs cells slots (MQ below (gQ D sz ws0 ws none) args s cells slots (va_A ws0 sz)) (F0 m pc ls []) :=
  W.vret F.1 F.2.1 hr (fun t ht hW => ⟨rfl, by rw [ht]; exact hP, hD, hS.F ht⟩) hS.2.2 hdg hlk
end QRows
/-! the pure side: partial steps as Option -/
def ix (i : Int32) (n : Nat) {α : Type} (k : Option α) : Option α := if decide (0 ≤ i.toInt) && decide (i.toInt < n) then k else none
def ifb (c : Prop) [Decidable c] {α : Type} (a b : Option α) : Option α := if c then a else b
def ckp (c : Prop) [Decidable c] {α : Type} (a : Option α) : Option α := if c then a else none
theorem o_ix {i : Int32} {n : Nat} {α : Type} {k : Option α} {z : α} (h : ix i n k = some z) : vp_in i n ∧ k = some z := by
  unfold ix at h
  split at h
  · rename_i hc
    simp only [Bool.and_eq_true, decide_eq_true_eq] at hc
    exact ⟨vp_in_iff.mpr hc, h⟩
  · cases h
theorem o_t {c : Prop} [Decidable c] {α : Type} {a b : Option α} {z : α} (hc : c) (h : ifb c a b = some z) : a = some z := by
  unfold ifb at h; rwa [if_pos hc] at h
theorem o_f {c : Prop} [Decidable c] {α : Type} {a b : Option α} {z : α} (hc : ¬ c) (h : ifb c a b = some z) : b = some z := by
  unfold ifb at h; rwa [if_neg hc] at h
theorem o_c {c : Prop} [Decidable c] {α : Type} {a : Option α} {z : α} (h : ckp c a = some z) : c ∧ a = some z := by
  unfold ckp at h
  split at h
  · rename_i hc; exact ⟨hc, h⟩
  · cases h
theorem o_b {α β : Type} {x : Option α} {k : α → Option β} {z : β} (h : x.bind k = some z) : ∃ a, x = some a ∧ k a = some z := Option.bind_eq_some_iff.mp h
abbrev jmax (x y : Int32) : Int32 := if x < y then y else x
abbrev jmin (x y : Int32) : Int32 := if y < x then y else x
abbrev jabs (x : Int32) : Int32 := if 0 ≤ x then x else 0 - x
abbrev jabsL (x : Int64) : Int64 := if 0 < x then x else -x
abbrev ty0 (cI cJ cB : ClassId) : List (ClassId × FieldType) := [(cI, .int), (cJ, .long), (cB, .byte)]
theorem nb01 {v : Int32} (h : v = 0 ∨ v = 1) : narrow .boolean (.int v) = .int v := by rcases h with rfl | rfl <;> rfl
theorem fb01 {v : Int32} (h : v = 0 ∨ v = 1) : fits .boolean (.int v) = true := by rcases h with rfl | rfl <;> rfl
end QBase
